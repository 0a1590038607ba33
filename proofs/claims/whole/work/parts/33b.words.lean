/-! methods as words over the memory, part 33b -/
def VX5_lay (Q : e_M → Prop) (x1 : Int) (x2 : Int) (M : e_M) : Prop :=
  ((160 ≤ (M 4426 5) → (Q M)) ∧ ((M 4426 5) < 160 → ((0 ≤ (M 4426 5) ∧ (M 4426 5) < 160) ∧ (∀ M1 : e_M, M1 = e_up M 4436 ((M 4426 5).toNat) x1 → ((0 ≤ (M1 4426 5) ∧ (M1 4426 5) < 160) ∧ (∀ M2 : e_M, M2 = e_up M1 4437 ((M1 4426 5).toNat) x2 → (∀ M3 : e_M, M3 = e_up M2 4426 5 (e_w32 ((M2 4426 5) + 1)) → (Q M3))))))))
def yX5_lay (i : Nat) : e_Y := x_get YX5_lay [] i
def pX5_layf : List x_I := [(0, 4, 1, 0, 0, 0, []), (1, 25, 5, 5, 0, 0, []), (4, 0, 3, 0, 0, 160, []), (7, 18, 40, 3, 23, 0, []), (10, 4, 1, 0, 0, 0, []), (11, 25, 5, 3, 4, 0, [(0, 20, 160), (0, 1, 10)]), (14, 4, 1, 0, 0, 0, []), (15, 25, 5, 5, 0, 0, []), (18, 2, 1, 1, 0, 0, []), (19, 28, 0, 0, 0, 0, []), (20, 4, 1, 0, 0, 0, []), (21, 25, 5, 4, 4, 0, [(0, 20, 160), (0, 1, 11)]), (24, 4, 1, 0, 0, 0, []), (25, 25, 5, 5, 0, 0, []), (28, 2, 1, 2, 0, 0, []), (29, 28, 0, 0, 0, 0, []), (30, 4, 1, 0, 0, 0, []), (31, 20, 0, 0, 0, 0, []), (32, 25, 5, 5, 0, 0, []), (35, 0, 1, 0, 0, 1, []), (36, 9, 0, 0, 0, 0, []), (37, 26, 5, 5, 0, 0, []), (40, 44, 0, 0, 0, 0, [])]
set_option maxRecDepth 20000 in
theorem qX5_layf : f_all yX5_lay YX5_lay pX5_layf :=
  ⟨f_aload_n (n := 0) (e_dx DX5_lay_0 0 rfl) rfl,
  f_getf (e_dx DX5_lay_0 1 rfl) fX5_31 rfl (by decide) (by decide) (by decide),
  f_sipush (e_dx DX5_lay_0 2 rfl) ⟨by decide, by decide⟩,
  f_icmp_ge (e_dx DX5_lay_0 3 rfl) rfl,
  f_aload_n (n := 0) (e_dx DX5_lay_0 4 rfl) rfl,
  f_getA (e_dx DX5_lay_0 5 rfl) fX5_24 rfl (by decide) (Nat.le_of_ble_eq_true rfl) rfl (by decide),
  f_aload_n (n := 0) (e_dx DX5_lay_0 6 rfl) rfl,
  f_getf (e_dx DX5_lay_0 7 rfl) fX5_31 rfl (by decide) (by decide) (by decide),
  f_iload_n (n := 1) (e_dx DX5_lay_0 8 rfl) rfl,
  f_iastore (e_dx DX5_lay_0 9 rfl),
  f_aload_n (n := 0) (e_dx DX5_lay_0 10 rfl) rfl,
  f_getA (e_dx DX5_lay_0 11 rfl) fX5_28 rfl (by decide) (Nat.le_of_ble_eq_true rfl) rfl (by decide),
  f_aload_n (n := 0) (e_dx DX5_lay_0 12 rfl) rfl,
  f_getf (e_dx DX5_lay_0 13 rfl) fX5_31 rfl (by decide) (by decide) (by decide),
  f_iload_n (n := 2) (e_dx DX5_lay_0 14 rfl) rfl,
  f_iastore (e_dx DX5_lay_0 15 rfl),
  f_aload_n (n := 0) (e_dx DX5_lay_0 16 rfl) rfl,
  f_g20 (e_dx DX5_lay_0 17 rfl),
  f_getf (e_dx DX5_lay_0 18 rfl) fX5_31 rfl (by decide) (by decide) (by decide),
  f_iconst (e_dx DX5_lay_0 19 rfl) ⟨by decide, by decide⟩,
  f_iadd (e_dx DX5_lay_0 20 rfl),
  f_putn (e_dx DX5_lay_0 21 rfl) fX5_31 (fun q hq => by cases hq; rfl) rfl (Or.inl rfl) (by decide),
  ⟨(e_dx DX5_lay_0 22 rfl), rfl⟩, trivial⟩
def lX5_lay : List (Nat × f_Wt) := []
set_option maxRecDepth 20000 in
theorem BX5_lay {sh : Nat → Nat × Nat} {t : Nat} {rm : Nat × Nat × Nat} {cs : Nat × Nat} {R : f_Rt} {x1 : Int} {x2 : Int} {M : e_M} (C : f_Hy sh t yX5_lay rm cs 4 (lX5_lay) R) (h : VX5_lay (fun M => R none M) x1 x2 M) : f_E sh t YX5_lay rm cs (f_Q sh t R) 0 [.inr (.inr (.inl (5, 12, 4426))), .inl x1, .inl x2] [] M :=
  f_go (KC := f_kc []) C qX5_layf f_kc_nil 25 0 h
def WX5_lay (x1 : Int) (x2 : Int) (M : e_M) (Q : e_M → Prop) : Prop :=
  VX5_lay Q x1 x2 M
theorem PX5_lay {sh : Nat → Nat × Nat} {t : Nat} {rm : Nat × Nat × Nat} {cs : Nat × Nat} {R : f_Rt} {x1 : Int} {x2 : Int} {M : e_M} (C : f_Hy sh t yX5_lay rm cs 4 (lX5_lay) R) (h : WX5_lay x1 x2 M (fun M => R none M)) : f_E sh t YX5_lay rm cs (f_Q sh t R) 0 [.inr (.inr (.inl (5, 12, 4426))), .inl x1, .inl x2] [] M :=
  BX5_lay C h
def wX5_lay : f_Wt := f_wm [(4436, 5, 12), (1, 0, 0), (1, 0, 0)] (fun ar M R => WX5_lay (f_vi (f_nth ar 1)) (f_vi (f_nth ar 2)) M (fun M => R none M))
theorem TX5_lay {sh : Nat → Nat × Nat} {t : Nat} : f_Mt sh t YX5_lay 4 (wX5_lay) :=
  f_Mt_of (k := 0) (Nat.le_of_ble_eq_true rfl) rfl rfl (fun ar M R rm cs h1 h2 h3 hX h => PX5_lay ⟨Nat.le_of_ble_eq_true rfl, h1, h2, h3, trivial, hX⟩ h)
def VX5_layCut_8 (c_X5_lay : Int → Int → e_M → (e_M → Prop) → Prop) (k8 : Nat → Int → Int → e_M → Prop) (Q : e_M → Prop) (a1 : Nat) (x3 : Int) (x4 : Int) (M : e_M) : Prop :=
  ((x4 < 0 → (Q M)) ∧ (0 ≤ x4 → (((M a1 18) ≤ x4 → (Q M)) ∧ (x4 < (M a1 18) → ((0 ≤ x4 ∧ x4 < 12) ∧ ((0 ≤ x4 ∧ x4 < 12) ∧ (c_X5_lay (M (a1 + 5) (x4.toNat)) (M (a1 + 6) (x4.toNat)) M (fun M1 => (k8 a1 x3 (e_w32 (x4 + x3)) M1)))))))))
def VX5_layCut (c_X5_lay : Int → Int → e_M → (e_M → Prop) → Prop) (k8 : Nat → Int → Int → e_M → Prop) (Q : e_M → Prop) (a1 : Nat) (x2 : Int) (x3 : Int) (M : e_M) : Prop :=
  (∀ M1 : e_M, M1 = e_up M 4426 5 0 → (k8 a1 x3 x2 M1))
def yX5_layCut (i : Nat) : e_Y := x_get YX5_layCut [YX5_lay] i
def pX5_layCutf : List x_I := [(0, 4, 1, 0, 0, 0, []), (1, 0, 1, 0, 0, 0, []), (2, 26, 5, 5, 0, 0, []), (5, 2, 1, 2, 0, 0, []), (6, 5, 2, 4, 0, 0, []), (8, 49, 0, 0, 0, 0, []), (8, 2, 2, 4, 0, 0, []), (10, 17, 49, 2, 28, 0, []), (13, 2, 2, 4, 0, 0, []), (15, 4, 1, 1, 0, 0, []), (16, 25, 2, 18, 0, 0, []), (19, 18, 49, 3, 28, 0, []), (22, 4, 1, 0, 0, 0, []), (23, 4, 1, 1, 0, 0, []), (24, 25, 2, 16, 4, 0, [(0, 20, 12), (0, 1, 5)]), (27, 2, 2, 4, 0, 0, []), (29, 27, 0, 0, 0, 0, []), (30, 4, 1, 1, 0, 0, []), (31, 25, 2, 17, 4, 0, [(0, 20, 12), (0, 1, 6)]), (34, 2, 2, 4, 0, 0, []), (36, 27, 0, 0, 0, 0, []), (37, 40, 0, 3, 7, 0, []), (40, 2, 2, 4, 0, 0, []), (42, 2, 1, 3, 0, 0, []), (43, 9, 0, 0, 0, 0, []), (44, 5, 2, 4, 0, 0, []), (46, 19, 8, 0, 6, 0, []), (49, 44, 0, 0, 0, 0, [])]
set_option maxRecDepth 20000 in
theorem qX5_layCutf : f_all yX5_layCut YX5_layCut pX5_layCutf :=
  ⟨f_aload_n (n := 0) (e_dx DX5_layCut_0 0 rfl) rfl,
  f_iconst (e_dx DX5_layCut_0 1 rfl) ⟨by decide, by decide⟩,
  f_putn (e_dx DX5_layCut_0 2 rfl) fX5_31 (fun q hq => by cases hq; rfl) rfl (Or.inl rfl) (by decide),
  f_iload_n (n := 2) (e_dx DX5_layCut_0 3 rfl) rfl,
  f_istore (e_dx DX5_layCut_0 4 rfl) (by decide),
  trivial,
  f_iload (e_dx DX5_layCut_0 5 rfl),
  f_if_lt (e_dx DX5_layCut_0 6 rfl) rfl,
  f_iload (e_dx DX5_layCut_0 7 rfl),
  f_aload_n (n := 1) (e_dx DX5_layCut_0 8 rfl) rfl,
  f_getf (e_dx DX5_layCut_0 9 rfl) fX5_54 rfl (by decide) (by decide) (by decide),
  f_icmp_ge (e_dx DX5_layCut_0 10 rfl) rfl,
  f_aload_n (n := 0) (e_dx DX5_layCut_0 11 rfl) rfl,
  f_aload_n (n := 1) (e_dx DX5_layCut_0 12 rfl) rfl,
  f_getA (e_dx DX5_layCut_0 13 rfl) fX5_59 rfl (by decide) (Nat.le_of_ble_eq_true rfl) rfl (by decide),
  f_iload (e_dx DX5_layCut_0 14 rfl),
  f_iaload (e_dx DX5_layCut_0 15 rfl),
  f_aload_n (n := 1) (e_dx DX5_layCut_0 16 rfl) rfl,
  f_getA (e_dx DX5_layCut_0 17 rfl) fX5_62 rfl (by decide) (Nat.le_of_ble_eq_true rfl) rfl (by decide),
  f_iload (e_dx DX5_layCut_0 18 rfl),
  f_iaload (e_dx DX5_layCut_0 19 rfl),
  x_callV (e_dx DX5_layCut_0 20 rfl) mwX5_lay vwX5_lay cX5_106 rfl,
  f_iload (e_dx DX5_layCut_0 21 rfl),
  f_iload_n (n := 3) (e_dx DX5_layCut_0 22 rfl) rfl,
  f_iadd (e_dx DX5_layCut_0 23 rfl),
  f_istore (e_dx DX5_layCut_0 24 rfl) (by decide),
  f_g19 (e_dx DX5_layCut_0 25 rfl) rfl,
  ⟨(e_dx DX5_layCut_0 26 rfl), rfl⟩, trivial⟩
def lX5_layCut (c_X5_lay : Int → Int → e_M → (e_M → Prop) → Prop) : List (Nat × f_Wt) := [(0, f_wm [(4436, 5, 12), (1, 0, 0), (1, 0, 0)] (fun ar M R => c_X5_lay (f_vi (f_nth ar 1)) (f_vi (f_nth ar 2)) M (fun M => R none M)))]
set_option maxRecDepth 20000 in
theorem BX5_layCut_8 {sh : Nat → Nat × Nat} {t : Nat} {rm : Nat × Nat × Nat} {cs : Nat × Nat} {R : f_Rt} {c_X5_lay : Int → Int → e_M → (e_M → Prop) → Prop} {k8 : Nat → Int → Int → e_M → Prop} {a1 : Nat} {x3 : Int} {x4 : Int} {M : e_M} (C : f_Hy sh t yX5_layCut rm cs 5 (lX5_layCut c_X5_lay) R) (h8 : ∀ (a1 : Nat) (x3 : Int) (x4 : Int) (M : e_M), k8 a1 x3 x4 M → f_E sh t YX5_layCut rm cs (f_Q sh t R) 8 [.inr (.inr (.inl (5, 12, 4426))), .inr (.inr (.inl (2, 19, a1))), .inr (.inr (.inr ())), .inl x3, .inl x4] [] M) (h : VX5_layCut_8 c_X5_lay k8 (fun M => R none M) a1 x3 x4 M) : f_E sh t YX5_layCut rm cs (f_Q sh t R) 8 [.inr (.inr (.inl (5, 12, 4426))), .inr (.inr (.inl (2, 19, a1))), .inr (.inr (.inr ())), .inl x3, .inl x4] [] M :=
  f_go (KC := f_kc [(8, f_pl [(4436, 5, 12), (3, 2, 19), (0, 0, 0), (1, 0, 0), (1, 0, 0)] [] (fun ls st M => k8 (f_va (f_nth ls 1)) (f_vi (f_nth ls 3)) (f_vi (f_nth ls 4)) M))]) C qX5_layCutf (f_kc_cons (f_pl_ok rfl (fun ls st M h => h8 _ _ _ M h)) f_kc_nil) 30 6 h
set_option maxRecDepth 20000 in
theorem BX5_layCut {sh : Nat → Nat × Nat} {t : Nat} {rm : Nat × Nat × Nat} {cs : Nat × Nat} {R : f_Rt} {c_X5_lay : Int → Int → e_M → (e_M → Prop) → Prop} {k8 : Nat → Int → Int → e_M → Prop} {a1 : Nat} {x2 : Int} {x3 : Int} {M : e_M} (C : f_Hy sh t yX5_layCut rm cs 5 (lX5_layCut c_X5_lay) R) (h8 : ∀ (a1 : Nat) (x3 : Int) (x4 : Int) (M : e_M), k8 a1 x3 x4 M → f_E sh t YX5_layCut rm cs (f_Q sh t R) 8 [.inr (.inr (.inl (5, 12, 4426))), .inr (.inr (.inl (2, 19, a1))), .inr (.inr (.inr ())), .inl x3, .inl x4] [] M) (h : VX5_layCut c_X5_lay k8 (fun M => R none M) a1 x2 x3 M) : f_E sh t YX5_layCut rm cs (f_Q sh t R) 0 [.inr (.inr (.inl (5, 12, 4426))), .inr (.inr (.inl (2, 19, a1))), .inl x2, .inl x3, .inr (.inr (.inr ()))] [] M :=
  f_go (KC := f_kc [(8, f_pl [(4436, 5, 12), (3, 2, 19), (0, 0, 0), (1, 0, 0), (1, 0, 0)] [] (fun ls st M => k8 (f_va (f_nth ls 1)) (f_vi (f_nth ls 3)) (f_vi (f_nth ls 4)) M))]) C qX5_layCutf (f_kc_cons (f_pl_ok rfl (fun ls st M h => h8 _ _ _ M h)) f_kc_nil) 30 0 h
def WX5_layCut_8 (Q : e_M → Prop) : Nat → Nat → Int → Int → e_M → Prop
  | 0, _, _, _, _ => False
  | n + 1, a1, x3, x4, M =>
    VX5_layCut_8 WX5_lay (WX5_layCut_8 Q n) Q a1 x3 x4 M
def WX5_layCut (a1 : Nat) (x2 : Int) (x3 : Int) (M : e_M) (Q : e_M → Prop) : Prop :=
  VX5_layCut WX5_lay (fun a1 x3 x4 M => ∃ j, WX5_layCut_8 Q j a1 x3 x4 M) Q a1 x2 x3 M
theorem PX5_layCut_8 {sh : Nat → Nat × Nat} {t : Nat} {rm : Nat × Nat × Nat} {cs : Nat × Nat} {R : f_Rt} (C : f_Hy sh t yX5_layCut rm cs 5 (lX5_layCut WX5_lay) R) : ∀ (n : Nat) (a1 : Nat) (x3 : Int) (x4 : Int) (M : e_M), WX5_layCut_8 (fun M => R none M) n a1 x3 x4 M → f_E sh t YX5_layCut rm cs (f_Q sh t R) 8 [.inr (.inr (.inl (5, 12, 4426))), .inr (.inr (.inl (2, 19, a1))), .inr (.inr (.inr ())), .inl x3, .inl x4] [] M := by
  intro n
  induction n with
  | zero => intro a1 x3 x4 M h; exact h.elim
  | succ n ih => intro a1 x3 x4 M h; exact BX5_layCut_8 C ih h
theorem PX5_layCut {sh : Nat → Nat × Nat} {t : Nat} {rm : Nat × Nat × Nat} {cs : Nat × Nat} {R : f_Rt} {a1 : Nat} {x2 : Int} {x3 : Int} {M : e_M} (C : f_Hy sh t yX5_layCut rm cs 5 (lX5_layCut WX5_lay) R) (h : WX5_layCut a1 x2 x3 M (fun M => R none M)) : f_E sh t YX5_layCut rm cs (f_Q sh t R) 0 [.inr (.inr (.inl (5, 12, 4426))), .inr (.inr (.inl (2, 19, a1))), .inl x2, .inl x3, .inr (.inr (.inr ()))] [] M :=
  BX5_layCut C (fun a1 x3 x4 M ⟨j, h⟩ => PX5_layCut_8 C j _ _ _ _ h) h
def wX5_layCut : f_Wt := f_wm [(4436, 5, 12), (3, 2, 19), (1, 0, 0), (1, 0, 0)] (fun ar M R => WX5_layCut (f_va (f_nth ar 1)) (f_vi (f_nth ar 2)) (f_vi (f_nth ar 3)) M (fun M => R none M))
theorem TX5_layCut {sh : Nat → Nat × Nat} {t : Nat} : f_Mt sh t YX5_layCut 5 (wX5_layCut) :=
  f_Mt_of (k := 1) (Nat.le_of_ble_eq_true rfl) rfl rfl (fun ar M R rm cs h1 h2 h3 hX h => PX5_layCut ⟨Nat.le_of_ble_eq_true rfl, h1, h2, h3, ⟨(f_Mt.up (Nat.le_of_ble_eq_true rfl) TX5_lay), trivial⟩, hX⟩ h)
def VX3_stretchOf_2 (c_X3_next : Nat → Int → e_M → (Int → Prop) → Prop) (c_X11_isOn : Int → Int → Int → Int → Int → Int → e_M → (Int → Prop) → Prop) (k43 : Nat → Int → Int → Int → Int → Prop) (k44 : Nat → Int → Int → Int → Int → Int → Prop) (Q : Int → Prop) (a0 : Nat) (x1 : Int) (x2 : Int) (x3 : Int) (M : e_M) : Prop :=
  (((M a0 2) ≤ x3 → (Q (-1))) ∧ (x3 < (M a0 2) → (c_X3_next a0 x3 M (fun r1 => ((0 ≤ r1 ∧ r1 < 40) ∧ ((¬ x1 = (M (a0 + 1) (r1.toNat)) → (k43 a0 x1 x2 x3 r1)) ∧ (x1 = (M (a0 + 1) (r1.toNat)) → ((0 ≤ r1 ∧ r1 < 40) ∧ ((¬ x2 = (M (a0 + 2) (r1.toNat)) → (k43 a0 x1 x2 x3 r1)) ∧ (x2 = (M (a0 + 2) (r1.toNat)) → (k44 a0 x1 x2 x3 r1 1)))))))))))
def VX3_stretchOf_43 (c_X3_next : Nat → Int → e_M → (Int → Prop) → Prop) (c_X11_isOn : Int → Int → Int → Int → Int → Int → e_M → (Int → Prop) → Prop) (k44 : Nat → Int → Int → Int → Int → Int → Prop) (Q : Int → Prop) (a0 : Nat) (x1 : Int) (x2 : Int) (x3 : Int) (x4 : Int) (M : e_M) : Prop :=
  (k44 a0 x1 x2 x3 x4 0)
def VX3_stretchOf_44 (c_X3_next : Nat → Int → e_M → (Int → Prop) → Prop) (c_X11_isOn : Int → Int → Int → Int → Int → Int → e_M → (Int → Prop) → Prop) (k87 : Nat → Int → Int → Int → Prop) (Q : Int → Prop) (a0 : Nat) (x1 : Int) (x2 : Int) (x3 : Int) (x4 : Int) (xs0 : Int) (M : e_M) : Prop :=
  ((¬ xs0 = 0 → (k87 a0 x1 x2 x3)) ∧ (xs0 = 0 → ((0 ≤ x3 ∧ x3 < 40) ∧ ((0 ≤ x3 ∧ x3 < 40) ∧ ((0 ≤ x4 ∧ x4 < 40) ∧ ((0 ≤ x4 ∧ x4 < 40) ∧ (c_X11_isOn (M (a0 + 1) (x3.toNat)) (M (a0 + 2) (x3.toNat)) (M (a0 + 1) (x4.toNat)) (M (a0 + 2) (x4.toNat)) x1 x2 M (fun r1 => ((r1 = 0 → (k87 a0 x1 x2 x3)) ∧ (¬ r1 = 0 → (Q x3)))))))))))
def VX3_stretchOf_87 (c_X3_next : Nat → Int → e_M → (Int → Prop) → Prop) (c_X11_isOn : Int → Int → Int → Int → Int → Int → e_M → (Int → Prop) → Prop) (k2 : Nat → Int → Int → Int → Prop) (Q : Int → Prop) (a0 : Nat) (x1 : Int) (x2 : Int) (x3 : Int) (M : e_M) : Prop :=
  (k2 a0 x1 x2 (e_w32 (x3 + 1)))
def VX3_stretchOf (c_X3_next : Nat → Int → e_M → (Int → Prop) → Prop) (c_X11_isOn : Int → Int → Int → Int → Int → Int → e_M → (Int → Prop) → Prop) (k2 : Nat → Int → Int → Int → Prop) (Q : Int → Prop) (a0 : Nat) (x1 : Int) (x2 : Int) (M : e_M) : Prop :=
  (k2 a0 x1 x2 0)
def yX3_stretchOf (i : Nat) : e_Y := x_get YX3_stretchOf [YX3_next, YX11_isOn] i
def pX3_stretchOff : List x_I := [(0, 0, 1, 0, 0, 0, []), (1, 5, 1, 3, 0, 0, []), (2, 49, 0, 0, 0, 0, []), (2, 2, 1, 3, 0, 0, []), (3, 4, 1, 0, 0, 0, []), (4, 25, 3, 2, 0, 0, []), (7, 18, 93, 3, 57, 0, []), (10, 4, 1, 0, 0, 0, []), (11, 2, 1, 3, 0, 0, []), (12, 40, 0, 2, 5, 0, []), (15, 5, 2, 4, 0, 0, []), (17, 2, 1, 1, 0, 0, []), (18, 4, 1, 0, 0, 0, []), (19, 25, 3, 0, 4, 0, [(0, 20, 40), (0, 1, 1)]), (22, 2, 2, 4, 0, 0, []), (24, 27, 0, 0, 0, 0, []), (25, 18, 43, 1, 26, 0, []), (28, 2, 1, 2, 0, 0, []), (29, 4, 1, 0, 0, 0, []), (30, 25, 3, 1, 4, 0, [(0, 20, 40), (0, 1, 2)]), (33, 2, 2, 4, 0, 0, []), (35, 27, 0, 0, 0, 0, []), (36, 18, 43, 1, 26, 0, []), (39, 0, 1, 0, 0, 1, []), (40, 19, 44, 0, 28, 0, []), (43, 49, 0, 0, 0, 0, []), (43, 0, 1, 0, 0, 0, []), (44, 49, 0, 0, 0, 0, []), (44, 5, 2, 5, 0, 0, []), (46, 2, 2, 5, 0, 0, []), (48, 17, 87, 1, 54, 0, []), (51, 4, 1, 0, 0, 0, []), (52, 25, 3, 0, 4, 0, [(0, 20, 40), (0, 1, 1)]), (55, 2, 1, 3, 0, 0, []), (56, 27, 0, 0, 0, 0, []), (57, 4, 1, 0, 0, 0, []), (58, 25, 3, 1, 4, 0, [(0, 20, 40), (0, 1, 2)]), (61, 2, 1, 3, 0, 0, []), (62, 27, 0, 0, 0, 0, []), (63, 4, 1, 0, 0, 0, []), (64, 25, 3, 0, 4, 0, [(0, 20, 40), (0, 1, 1)]), (67, 2, 2, 4, 0, 0, []), (69, 27, 0, 0, 0, 0, []), (70, 4, 1, 0, 0, 0, []), (71, 25, 3, 1, 4, 0, [(0, 20, 40), (0, 1, 2)]), (74, 2, 2, 4, 0, 0, []), (76, 27, 0, 0, 0, 0, []), (77, 2, 1, 1, 0, 0, []), (78, 2, 1, 2, 0, 0, []), (79, 40, 1, 6, 0, 0, []), (82, 17, 87, 0, 54, 0, []), (85, 2, 1, 3, 0, 0, []), (86, 41, 0, 0, 0, 0, []), (87, 49, 0, 0, 0, 0, []), (87, 8, 0, 3, 0, 1, []), (90, 19, 2, 0, 3, 0, []), (93, 0, 1, 0, 0, (-1), []), (94, 41, 0, 0, 0, 0, [])]
set_option maxRecDepth 20000 in
theorem qX3_stretchOff : f_all yX3_stretchOf YX3_stretchOf pX3_stretchOff :=
  ⟨f_iconst (e_dx DX3_stretchOf_0 0 rfl) ⟨by decide, by decide⟩,
  f_istore_n (n := 3) (e_dx DX3_stretchOf_0 1 rfl) rfl (by decide),
  trivial,
  f_iload_n (n := 3) (e_dx DX3_stretchOf_0 2 rfl) rfl,
  f_aload_n (n := 0) (e_dx DX3_stretchOf_0 3 rfl) rfl,
  f_getf (e_dx DX3_stretchOf_0 4 rfl) fX3_18 rfl (by decide) (by decide) (by decide),
  f_icmp_ge (e_dx DX3_stretchOf_0 5 rfl) rfl,
  f_aload_n (n := 0) (e_dx DX3_stretchOf_0 6 rfl) rfl,
  f_iload_n (n := 3) (e_dx DX3_stretchOf_0 7 rfl) rfl,
  x_callV (e_dx DX3_stretchOf_0 8 rfl) mwX3_next vwX3_next cX3_29 rfl,
  f_istore (e_dx DX3_stretchOf_0 9 rfl) (by decide),
  f_iload_n (n := 1) (e_dx DX3_stretchOf_0 10 rfl) rfl,
  f_aload_n (n := 0) (e_dx DX3_stretchOf_0 11 rfl) rfl,
  f_getA (e_dx DX3_stretchOf_0 12 rfl) fX3_9 rfl (by decide) (Nat.le_of_ble_eq_true rfl) rfl (by decide),
  f_iload (e_dx DX3_stretchOf_0 13 rfl),
  f_iaload (e_dx DX3_stretchOf_0 14 rfl),
  f_icmp_ne (e_dx DX3_stretchOf_0 15 rfl) rfl,
  f_iload_n (n := 2) (e_dx DX3_stretchOf_0 16 rfl) rfl,
  f_aload_n (n := 0) (e_dx DX3_stretchOf_0 17 rfl) rfl,
  f_getA (e_dx DX3_stretchOf_0 18 rfl) fX3_15 rfl (by decide) (Nat.le_of_ble_eq_true rfl) rfl (by decide),
  f_iload (e_dx DX3_stretchOf_0 19 rfl),
  f_iaload (e_dx DX3_stretchOf_0 20 rfl),
  f_icmp_ne (e_dx DX3_stretchOf_0 21 rfl) rfl,
  f_iconst (e_dx DX3_stretchOf_0 22 rfl) ⟨by decide, by decide⟩,
  f_g19 (e_dx DX3_stretchOf_0 23 rfl) rfl,
  trivial,
  f_iconst (e_dx DX3_stretchOf_0 24 rfl) ⟨by decide, by decide⟩,
  trivial,
  f_istore (e_dx DX3_stretchOf_0 25 rfl) (by decide),
  f_iload (e_dx DX3_stretchOf_0 26 rfl),
  f_if_ne (e_dx DX3_stretchOf_0 27 rfl) rfl,
  f_aload_n (n := 0) (e_dx DX3_stretchOf_0 28 rfl) rfl,
  f_getA (e_dx DX3_stretchOf_0 29 rfl) fX3_9 rfl (by decide) (Nat.le_of_ble_eq_true rfl) rfl (by decide),
  f_iload_n (n := 3) (e_dx DX3_stretchOf_0 30 rfl) rfl,
  f_iaload (e_dx DX3_stretchOf_0 31 rfl),
  f_aload_n (n := 0) (e_dx DX3_stretchOf_0 32 rfl) rfl,
  f_getA (e_dx DX3_stretchOf_0 33 rfl) fX3_15 rfl (by decide) (Nat.le_of_ble_eq_true rfl) rfl (by decide),
  f_iload_n (n := 3) (e_dx DX3_stretchOf_0 34 rfl) rfl,
  f_iaload (e_dx DX3_stretchOf_0 35 rfl),
  f_aload_n (n := 0) (e_dx DX3_stretchOf_0 36 rfl) rfl,
  f_getA (e_dx DX3_stretchOf_0 37 rfl) fX3_9 rfl (by decide) (Nat.le_of_ble_eq_true rfl) rfl (by decide),
  f_iload (e_dx DX3_stretchOf_0 38 rfl),
  f_iaload (e_dx DX3_stretchOf_0 39 rfl),
  f_aload_n (n := 0) (e_dx DX3_stretchOf_1 0 rfl) rfl,
  f_getA (e_dx DX3_stretchOf_1 1 rfl) fX3_15 rfl (by decide) (Nat.le_of_ble_eq_true rfl) rfl (by decide),
  f_iload (e_dx DX3_stretchOf_1 2 rfl),
  f_iaload (e_dx DX3_stretchOf_1 3 rfl),
  f_iload_n (n := 1) (e_dx DX3_stretchOf_1 4 rfl) rfl,
  f_iload_n (n := 2) (e_dx DX3_stretchOf_1 5 rfl) rfl,
  x_callSN (e_dx DX3_stretchOf_1 6 rfl) mwX11_isOn cX3_42 swX11_isOn rfl,
  f_if_eq (e_dx DX3_stretchOf_1 7 rfl) rfl,
  f_iload_n (n := 3) (e_dx DX3_stretchOf_1 8 rfl) rfl,
  ⟨(e_dx DX3_stretchOf_1 9 rfl), rfl⟩,
  trivial,
  f_g8 (e_dx DX3_stretchOf_1 10 rfl) ⟨by decide, by decide⟩,
  f_g19 (e_dx DX3_stretchOf_1 11 rfl) rfl,
  f_iconst (e_dx DX3_stretchOf_1 12 rfl) ⟨by decide, by decide⟩,
  ⟨(e_dx DX3_stretchOf_1 13 rfl), rfl⟩, trivial⟩
def lX3_stretchOf (c_X3_next : Nat → Int → e_M → (Int → Prop) → Prop) (c_X11_isOn : Int → Int → Int → Int → Int → Int → e_M → (Int → Prop) → Prop) : List (Nat × f_Wt) := [(0, f_wm [(3, 3, 3), (1, 0, 0)] (fun ar M R => c_X3_next (f_va (f_nth ar 0)) (f_vi (f_nth ar 1)) M (fun r => R (some (.inl r)) M))), (1, f_wm [(1, 0, 0), (1, 0, 0), (1, 0, 0), (1, 0, 0), (1, 0, 0), (1, 0, 0)] (fun ar M R => c_X11_isOn (f_vi (f_nth ar 0)) (f_vi (f_nth ar 1)) (f_vi (f_nth ar 2)) (f_vi (f_nth ar 3)) (f_vi (f_nth ar 4)) (f_vi (f_nth ar 5)) M (fun r => R (some (.inl r)) M)))]
set_option maxRecDepth 20000 in
theorem BX3_stretchOf_2 {sh : Nat → Nat × Nat} {t : Nat} {rm : Nat × Nat × Nat} {cs : Nat × Nat} {R : f_Rt} {c_X3_next : Nat → Int → e_M → (Int → Prop) → Prop} {c_X11_isOn : Int → Int → Int → Int → Int → Int → e_M → (Int → Prop) → Prop} {k43 : Nat → Int → Int → Int → Int → Prop} {k44 : Nat → Int → Int → Int → Int → Int → Prop} {a0 : Nat} {x1 : Int} {x2 : Int} {x3 : Int} {M : e_M} (C : f_Hy sh t yX3_stretchOf rm cs 5 (lX3_stretchOf c_X3_next c_X11_isOn) R) (h43 : ∀ (a0 : Nat) (x1 : Int) (x2 : Int) (x3 : Int) (x4 : Int), k43 a0 x1 x2 x3 x4 → f_E sh t YX3_stretchOf rm cs (f_Q sh t R) 43 [.inr (.inr (.inl (3, 3, a0))), .inl x1, .inl x2, .inl x3, .inl x4, .inr (.inr (.inr ()))] [] M) (h44 : ∀ (a0 : Nat) (x1 : Int) (x2 : Int) (x3 : Int) (x4 : Int) (xs0 : Int), k44 a0 x1 x2 x3 x4 xs0 → f_E sh t YX3_stretchOf rm cs (f_Q sh t R) 44 [.inr (.inr (.inl (3, 3, a0))), .inl x1, .inl x2, .inl x3, .inl x4, .inr (.inr (.inr ()))] [.inl xs0] M) (h : VX3_stretchOf_2 c_X3_next c_X11_isOn k43 k44 (fun r => R (some (.inl r)) M) a0 x1 x2 x3 M) : f_E sh t YX3_stretchOf rm cs (f_Q sh t R) 2 [.inr (.inr (.inl (3, 3, a0))), .inl x1, .inl x2, .inl x3, .inr (.inr (.inr ())), .inr (.inr (.inr ()))] [] M := by
  rw [f_kk5 M k43] at h
  rw [f_kk6 M k44] at h
  exact f_go (KC := f_kc [(43, f_pl [(3, 3, 3), (1, 0, 0), (1, 0, 0), (1, 0, 0), (1, 0, 0), (0, 0, 0)] [] (fun ls st M2 => M2 = M ∧ (k43 (f_va (f_nth ls 0)) (f_vi (f_nth ls 1)) (f_vi (f_nth ls 2)) (f_vi (f_nth ls 3)) (f_vi (f_nth ls 4))))), (44, f_pl [(3, 3, 3), (1, 0, 0), (1, 0, 0), (1, 0, 0), (1, 0, 0), (0, 0, 0)] [(1, 0, 0)] (fun ls st M2 => M2 = M ∧ (k44 (f_va (f_nth ls 0)) (f_vi (f_nth ls 1)) (f_vi (f_nth ls 2)) (f_vi (f_nth ls 3)) (f_vi (f_nth ls 4)) (f_vi (f_nth st 0)))))]) C qX3_stretchOff (f_kc_cons (f_pl_ok rfl (fun ls st M2 ⟨e, hh⟩ => by subst e; exact h43 _ _ _ _ _ hh)) (f_kc_cons (f_pl_ok rfl (fun ls st M2 ⟨e, hh⟩ => by subst e; exact h44 _ _ _ _ _ _ hh)) f_kc_nil)) 60 3 h
set_option maxRecDepth 20000 in
theorem BX3_stretchOf_43 {sh : Nat → Nat × Nat} {t : Nat} {rm : Nat × Nat × Nat} {cs : Nat × Nat} {R : f_Rt} {c_X3_next : Nat → Int → e_M → (Int → Prop) → Prop} {c_X11_isOn : Int → Int → Int → Int → Int → Int → e_M → (Int → Prop) → Prop} {k44 : Nat → Int → Int → Int → Int → Int → Prop} {a0 : Nat} {x1 : Int} {x2 : Int} {x3 : Int} {x4 : Int} {M : e_M} (C : f_Hy sh t yX3_stretchOf rm cs 5 (lX3_stretchOf c_X3_next c_X11_isOn) R) (h44 : ∀ (a0 : Nat) (x1 : Int) (x2 : Int) (x3 : Int) (x4 : Int) (xs0 : Int), k44 a0 x1 x2 x3 x4 xs0 → f_E sh t YX3_stretchOf rm cs (f_Q sh t R) 44 [.inr (.inr (.inl (3, 3, a0))), .inl x1, .inl x2, .inl x3, .inl x4, .inr (.inr (.inr ()))] [.inl xs0] M) (h : VX3_stretchOf_43 c_X3_next c_X11_isOn k44 (fun r => R (some (.inl r)) M) a0 x1 x2 x3 x4 M) : f_E sh t YX3_stretchOf rm cs (f_Q sh t R) 43 [.inr (.inr (.inl (3, 3, a0))), .inl x1, .inl x2, .inl x3, .inl x4, .inr (.inr (.inr ()))] [] M := by
  rw [f_kk6 M k44] at h
  exact f_go (KC := f_kc [(44, f_pl [(3, 3, 3), (1, 0, 0), (1, 0, 0), (1, 0, 0), (1, 0, 0), (0, 0, 0)] [(1, 0, 0)] (fun ls st M2 => M2 = M ∧ (k44 (f_va (f_nth ls 0)) (f_vi (f_nth ls 1)) (f_vi (f_nth ls 2)) (f_vi (f_nth ls 3)) (f_vi (f_nth ls 4)) (f_vi (f_nth st 0)))))]) C qX3_stretchOff (f_kc_cons (f_pl_ok rfl (fun ls st M2 ⟨e, hh⟩ => by subst e; exact h44 _ _ _ _ _ _ hh)) f_kc_nil) 60 26 h
set_option maxRecDepth 20000 in
theorem BX3_stretchOf_44 {sh : Nat → Nat × Nat} {t : Nat} {rm : Nat × Nat × Nat} {cs : Nat × Nat} {R : f_Rt} {c_X3_next : Nat → Int → e_M → (Int → Prop) → Prop} {c_X11_isOn : Int → Int → Int → Int → Int → Int → e_M → (Int → Prop) → Prop} {k87 : Nat → Int → Int → Int → Prop} {a0 : Nat} {x1 : Int} {x2 : Int} {x3 : Int} {x4 : Int} {xs0 : Int} {M : e_M} (C : f_Hy sh t yX3_stretchOf rm cs 5 (lX3_stretchOf c_X3_next c_X11_isOn) R) (h87 : ∀ (a0 : Nat) (x1 : Int) (x2 : Int) (x3 : Int), k87 a0 x1 x2 x3 → f_E sh t YX3_stretchOf rm cs (f_Q sh t R) 87 [.inr (.inr (.inl (3, 3, a0))), .inl x1, .inl x2, .inl x3, .inr (.inr (.inr ())), .inr (.inr (.inr ()))] [] M) (h : VX3_stretchOf_44 c_X3_next c_X11_isOn k87 (fun r => R (some (.inl r)) M) a0 x1 x2 x3 x4 xs0 M) : f_E sh t YX3_stretchOf rm cs (f_Q sh t R) 44 [.inr (.inr (.inl (3, 3, a0))), .inl x1, .inl x2, .inl x3, .inl x4, .inr (.inr (.inr ()))] [.inl xs0] M := by
  rw [f_kk4 M k87] at h
  exact f_go (KC := f_kc [(87, f_pl [(3, 3, 3), (1, 0, 0), (1, 0, 0), (1, 0, 0), (0, 0, 0), (0, 0, 0)] [] (fun ls st M2 => M2 = M ∧ (k87 (f_va (f_nth ls 0)) (f_vi (f_nth ls 1)) (f_vi (f_nth ls 2)) (f_vi (f_nth ls 3)))))]) C qX3_stretchOff (f_kc_cons (f_pl_ok rfl (fun ls st M2 ⟨e, hh⟩ => by subst e; exact h87 _ _ _ _ hh)) f_kc_nil) 60 28 h
set_option maxRecDepth 20000 in
theorem BX3_stretchOf_87 {sh : Nat → Nat × Nat} {t : Nat} {rm : Nat × Nat × Nat} {cs : Nat × Nat} {R : f_Rt} {c_X3_next : Nat → Int → e_M → (Int → Prop) → Prop} {c_X11_isOn : Int → Int → Int → Int → Int → Int → e_M → (Int → Prop) → Prop} {k2 : Nat → Int → Int → Int → Prop} {a0 : Nat} {x1 : Int} {x2 : Int} {x3 : Int} {M : e_M} (C : f_Hy sh t yX3_stretchOf rm cs 5 (lX3_stretchOf c_X3_next c_X11_isOn) R) (h2 : ∀ (a0 : Nat) (x1 : Int) (x2 : Int) (x3 : Int), k2 a0 x1 x2 x3 → f_E sh t YX3_stretchOf rm cs (f_Q sh t R) 2 [.inr (.inr (.inl (3, 3, a0))), .inl x1, .inl x2, .inl x3, .inr (.inr (.inr ())), .inr (.inr (.inr ()))] [] M) (h : VX3_stretchOf_87 c_X3_next c_X11_isOn k2 (fun r => R (some (.inl r)) M) a0 x1 x2 x3 M) : f_E sh t YX3_stretchOf rm cs (f_Q sh t R) 87 [.inr (.inr (.inl (3, 3, a0))), .inl x1, .inl x2, .inl x3, .inr (.inr (.inr ())), .inr (.inr (.inr ()))] [] M := by
  rw [f_kk4 M k2] at h
  exact f_go (KC := f_kc [(2, f_pl [(3, 3, 3), (1, 0, 0), (1, 0, 0), (1, 0, 0), (0, 0, 0), (0, 0, 0)] [] (fun ls st M2 => M2 = M ∧ (k2 (f_va (f_nth ls 0)) (f_vi (f_nth ls 1)) (f_vi (f_nth ls 2)) (f_vi (f_nth ls 3)))))]) C qX3_stretchOff (f_kc_cons (f_pl_ok rfl (fun ls st M2 ⟨e, hh⟩ => by subst e; exact h2 _ _ _ _ hh)) f_kc_nil) 60 54 h
set_option maxRecDepth 20000 in
theorem BX3_stretchOf {sh : Nat → Nat × Nat} {t : Nat} {rm : Nat × Nat × Nat} {cs : Nat × Nat} {R : f_Rt} {c_X3_next : Nat → Int → e_M → (Int → Prop) → Prop} {c_X11_isOn : Int → Int → Int → Int → Int → Int → e_M → (Int → Prop) → Prop} {k2 : Nat → Int → Int → Int → Prop} {a0 : Nat} {x1 : Int} {x2 : Int} {M : e_M} (C : f_Hy sh t yX3_stretchOf rm cs 5 (lX3_stretchOf c_X3_next c_X11_isOn) R) (h2 : ∀ (a0 : Nat) (x1 : Int) (x2 : Int) (x3 : Int), k2 a0 x1 x2 x3 → f_E sh t YX3_stretchOf rm cs (f_Q sh t R) 2 [.inr (.inr (.inl (3, 3, a0))), .inl x1, .inl x2, .inl x3, .inr (.inr (.inr ())), .inr (.inr (.inr ()))] [] M) (h : VX3_stretchOf c_X3_next c_X11_isOn k2 (fun r => R (some (.inl r)) M) a0 x1 x2 M) : f_E sh t YX3_stretchOf rm cs (f_Q sh t R) 0 [.inr (.inr (.inl (3, 3, a0))), .inl x1, .inl x2, .inr (.inr (.inr ())), .inr (.inr (.inr ())), .inr (.inr (.inr ()))] [] M := by
  rw [f_kk4 M k2] at h
  exact f_go (KC := f_kc [(2, f_pl [(3, 3, 3), (1, 0, 0), (1, 0, 0), (1, 0, 0), (0, 0, 0), (0, 0, 0)] [] (fun ls st M2 => M2 = M ∧ (k2 (f_va (f_nth ls 0)) (f_vi (f_nth ls 1)) (f_vi (f_nth ls 2)) (f_vi (f_nth ls 3)))))]) C qX3_stretchOff (f_kc_cons (f_pl_ok rfl (fun ls st M2 ⟨e, hh⟩ => by subst e; exact h2 _ _ _ _ hh)) f_kc_nil) 60 0 h
def WX3_stretchOf_87 (M : e_M) (H2 : Nat → Int → Int → Int → Prop) (Q : Int → Prop) (a0 : Nat) (x1 : Int) (x2 : Int) (x3 : Int) : Prop :=
  VX3_stretchOf_87 WX3_next WX11_isOn H2 Q a0 x1 x2 x3 M
def WX3_stretchOf_44 (M : e_M) (H2 : Nat → Int → Int → Int → Prop) (Q : Int → Prop) (a0 : Nat) (x1 : Int) (x2 : Int) (x3 : Int) (x4 : Int) (xs0 : Int) : Prop :=
  VX3_stretchOf_44 WX3_next WX11_isOn (WX3_stretchOf_87 M H2 Q) Q a0 x1 x2 x3 x4 xs0 M
def WX3_stretchOf_43 (M : e_M) (H2 : Nat → Int → Int → Int → Prop) (Q : Int → Prop) (a0 : Nat) (x1 : Int) (x2 : Int) (x3 : Int) (x4 : Int) : Prop :=
  VX3_stretchOf_43 WX3_next WX11_isOn (WX3_stretchOf_44 M H2 Q) Q a0 x1 x2 x3 x4 M
def WX3_stretchOf_2 (M : e_M) (Q : Int → Prop) : Nat → Nat → Int → Int → Int → Prop
  | 0, _, _, _, _ => False
  | n + 1, a0, x1, x2, x3 =>
    VX3_stretchOf_2 WX3_next WX11_isOn (WX3_stretchOf_43 M (WX3_stretchOf_2 M Q n) Q) (WX3_stretchOf_44 M (WX3_stretchOf_2 M Q n) Q) Q a0 x1 x2 x3 M
def WX3_stretchOf (a0 : Nat) (x1 : Int) (x2 : Int) (M : e_M) (Q : Int → Prop) : Prop :=
  VX3_stretchOf WX3_next WX11_isOn (fun a0 x1 x2 x3 => ∃ j, WX3_stretchOf_2 M Q j a0 x1 x2 x3) Q a0 x1 x2 M
theorem PX3_stretchOf_87 {sh : Nat → Nat × Nat} {t : Nat} {rm : Nat × Nat × Nat} {cs : Nat × Nat} {R : f_Rt} {H2 : Nat → Int → Int → Int → Prop} {a0 : Nat} {x1 : Int} {x2 : Int} {x3 : Int} {M : e_M} (C : f_Hy sh t yX3_stretchOf rm cs 5 (lX3_stretchOf WX3_next WX11_isOn) R) (g2 : ∀ (a0 : Nat) (x1 : Int) (x2 : Int) (x3 : Int), H2 a0 x1 x2 x3 → f_E sh t YX3_stretchOf rm cs (f_Q sh t R) 2 [.inr (.inr (.inl (3, 3, a0))), .inl x1, .inl x2, .inl x3, .inr (.inr (.inr ())), .inr (.inr (.inr ()))] [] M) (h : WX3_stretchOf_87 M H2 (fun r => R (some (.inl r)) M) a0 x1 x2 x3) : f_E sh t YX3_stretchOf rm cs (f_Q sh t R) 87 [.inr (.inr (.inl (3, 3, a0))), .inl x1, .inl x2, .inl x3, .inr (.inr (.inr ())), .inr (.inr (.inr ()))] [] M :=
  BX3_stretchOf_87 C g2 h
theorem PX3_stretchOf_44 {sh : Nat → Nat × Nat} {t : Nat} {rm : Nat × Nat × Nat} {cs : Nat × Nat} {R : f_Rt} {H2 : Nat → Int → Int → Int → Prop} {a0 : Nat} {x1 : Int} {x2 : Int} {x3 : Int} {x4 : Int} {xs0 : Int} {M : e_M} (C : f_Hy sh t yX3_stretchOf rm cs 5 (lX3_stretchOf WX3_next WX11_isOn) R) (g2 : ∀ (a0 : Nat) (x1 : Int) (x2 : Int) (x3 : Int), H2 a0 x1 x2 x3 → f_E sh t YX3_stretchOf rm cs (f_Q sh t R) 2 [.inr (.inr (.inl (3, 3, a0))), .inl x1, .inl x2, .inl x3, .inr (.inr (.inr ())), .inr (.inr (.inr ()))] [] M) (h : WX3_stretchOf_44 M H2 (fun r => R (some (.inl r)) M) a0 x1 x2 x3 x4 xs0) : f_E sh t YX3_stretchOf rm cs (f_Q sh t R) 44 [.inr (.inr (.inl (3, 3, a0))), .inl x1, .inl x2, .inl x3, .inl x4, .inr (.inr (.inr ()))] [.inl xs0] M :=
  BX3_stretchOf_44 C (fun a0 x1 x2 x3 h => PX3_stretchOf_87 C g2 h) h
theorem PX3_stretchOf_43 {sh : Nat → Nat × Nat} {t : Nat} {rm : Nat × Nat × Nat} {cs : Nat × Nat} {R : f_Rt} {H2 : Nat → Int → Int → Int → Prop} {a0 : Nat} {x1 : Int} {x2 : Int} {x3 : Int} {x4 : Int} {M : e_M} (C : f_Hy sh t yX3_stretchOf rm cs 5 (lX3_stretchOf WX3_next WX11_isOn) R) (g2 : ∀ (a0 : Nat) (x1 : Int) (x2 : Int) (x3 : Int), H2 a0 x1 x2 x3 → f_E sh t YX3_stretchOf rm cs (f_Q sh t R) 2 [.inr (.inr (.inl (3, 3, a0))), .inl x1, .inl x2, .inl x3, .inr (.inr (.inr ())), .inr (.inr (.inr ()))] [] M) (h : WX3_stretchOf_43 M H2 (fun r => R (some (.inl r)) M) a0 x1 x2 x3 x4) : f_E sh t YX3_stretchOf rm cs (f_Q sh t R) 43 [.inr (.inr (.inl (3, 3, a0))), .inl x1, .inl x2, .inl x3, .inl x4, .inr (.inr (.inr ()))] [] M :=
  BX3_stretchOf_43 C (fun a0 x1 x2 x3 x4 xs0 h => PX3_stretchOf_44 C g2 h) h
theorem PX3_stretchOf_2 {sh : Nat → Nat × Nat} {t : Nat} {rm : Nat × Nat × Nat} {cs : Nat × Nat} {R : f_Rt} {M : e_M} (C : f_Hy sh t yX3_stretchOf rm cs 5 (lX3_stretchOf WX3_next WX11_isOn) R) : ∀ (n : Nat) (a0 : Nat) (x1 : Int) (x2 : Int) (x3 : Int), WX3_stretchOf_2 M (fun r => R (some (.inl r)) M) n a0 x1 x2 x3 → f_E sh t YX3_stretchOf rm cs (f_Q sh t R) 2 [.inr (.inr (.inl (3, 3, a0))), .inl x1, .inl x2, .inl x3, .inr (.inr (.inr ())), .inr (.inr (.inr ()))] [] M := by
  intro n
  induction n with
  | zero => intro a0 x1 x2 x3 h; exact h.elim
  | succ n ih => intro a0 x1 x2 x3 h; exact BX3_stretchOf_2 C (fun a0 x1 x2 x3 x4 h => PX3_stretchOf_43 C ih h) (fun a0 x1 x2 x3 x4 xs0 h => PX3_stretchOf_44 C ih h) h
theorem PX3_stretchOf {sh : Nat → Nat × Nat} {t : Nat} {rm : Nat × Nat × Nat} {cs : Nat × Nat} {R : f_Rt} {a0 : Nat} {x1 : Int} {x2 : Int} {M : e_M} (C : f_Hy sh t yX3_stretchOf rm cs 5 (lX3_stretchOf WX3_next WX11_isOn) R) (h : WX3_stretchOf a0 x1 x2 M (fun r => R (some (.inl r)) M)) : f_E sh t YX3_stretchOf rm cs (f_Q sh t R) 0 [.inr (.inr (.inl (3, 3, a0))), .inl x1, .inl x2, .inr (.inr (.inr ())), .inr (.inr (.inr ())), .inr (.inr (.inr ()))] [] M :=
  BX3_stretchOf C (fun a0 x1 x2 x3 ⟨j, h⟩ => PX3_stretchOf_2 C j _ _ _ _ h) h
def wX3_stretchOf : f_Wt := f_wm [(3, 3, 3), (1, 0, 0), (1, 0, 0)] (fun ar M R => WX3_stretchOf (f_va (f_nth ar 0)) (f_vi (f_nth ar 1)) (f_vi (f_nth ar 2)) M (fun r => R (some (.inl r)) M))
theorem TX3_stretchOf {sh : Nat → Nat × Nat} {t : Nat} : f_Mt sh t YX3_stretchOf 5 (wX3_stretchOf) :=
  f_Mt_of (k := 3) (Nat.le_of_ble_eq_true rfl) rfl rfl (fun ar M R rm cs h1 h2 h3 hX h => PX3_stretchOf ⟨Nat.le_of_ble_eq_true rfl, h1, h2, h3, ⟨(f_Mt.up (Nat.le_of_ble_eq_true rfl) TX3_next), (f_Mt.up (Nat.le_of_ble_eq_true rfl) TX11_isOn), trivial⟩, hX⟩ h)
def VX5_layBorder_106 (c_X3_stretchOf : Nat → Int → Int → e_M → (Int → Prop) → Prop) (c_X3_next : Nat → Int → e_M → (Int → Prop) → Prop) (c_X5_lay : Int → Int → e_M → (e_M → Prop) → Prop) (k115 : Nat → Int → Int → Int → Int → e_M → Prop) (Q : e_M → Prop) (a1 : Nat) (x4 : Int) (x5 : Int) (x6 : Int) (x8 : Int) (M : e_M) : Prop :=
  (k115 a1 x4 x5 x6 (e_w32 (x8 + (M a1 2))) M)
def VX5_layBorder_115 (c_X3_stretchOf : Nat → Int → Int → e_M → (Int → Prop) → Prop) (c_X3_next : Nat → Int → e_M → (Int → Prop) → Prop) (c_X5_lay : Int → Int → e_M → (e_M → Prop) → Prop) (k122 : Nat → Int → Int → Int → Int → Int → e_M → Prop) (Q : e_M → Prop) (a1 : Nat) (x4 : Int) (x5 : Int) (x6 : Int) (x8 : Int) (M : e_M) : Prop :=
  (k122 a1 x4 x5 x8 x6 0 M)
def VX5_layBorder_122 (c_X3_stretchOf : Nat → Int → Int → e_M → (Int → Prop) → Prop) (c_X3_next : Nat → Int → e_M → (Int → Prop) → Prop) (c_X5_lay : Int → Int → e_M → (e_M → Prop) → Prop) (k161 : Nat → Int → Int → Int → Int → Int → e_M → Prop) (k179 : Nat → Int → Int → Int → Int → Int → e_M → Prop) (Q : e_M → Prop) (a1 : Nat) (x4 : Int) (x5 : Int) (x8 : Int) (x10 : Int) (x11 : Int) (M : e_M) : Prop :=
  ((x8 ≤ x11 → (Q M)) ∧ (x11 < x8 → (c_X3_next a1 x10 M (fun r1 => ((0 ≤ r1 ∧ r1 < 40) ∧ ((¬ (M (a1 + 1) (r1.toNat)) = x4 → (k161 a1 x4 x5 x8 r1 x11 M)) ∧ ((M (a1 + 1) (r1.toNat)) = x4 → ((0 ≤ r1 ∧ r1 < 40) ∧ (((M (a1 + 2) (r1.toNat)) = x5 → (k179 a1 x4 x5 x8 r1 x11 M)) ∧ (¬ (M (a1 + 2) (r1.toNat)) = x5 → (k161 a1 x4 x5 x8 r1 x11 M)))))))))))
def VX5_layBorder_161 (c_X3_stretchOf : Nat → Int → Int → e_M → (Int → Prop) → Prop) (c_X3_next : Nat → Int → e_M → (Int → Prop) → Prop) (c_X5_lay : Int → Int → e_M → (e_M → Prop) → Prop) (k179 : Nat → Int → Int → Int → Int → Int → e_M → Prop) (Q : e_M → Prop) (a1 : Nat) (x4 : Int) (x5 : Int) (x8 : Int) (x10 : Int) (x11 : Int) (M : e_M) : Prop :=
  ((0 ≤ x10 ∧ x10 < 40) ∧ ((0 ≤ x10 ∧ x10 < 40) ∧ (c_X5_lay (M (a1 + 1) (x10.toNat)) (M (a1 + 2) (x10.toNat)) M (fun M1 => (k179 a1 x4 x5 x8 x10 x11 M1)))))
def VX5_layBorder_179 (c_X3_stretchOf : Nat → Int → Int → e_M → (Int → Prop) → Prop) (c_X3_next : Nat → Int → e_M → (Int → Prop) → Prop) (c_X5_lay : Int → Int → e_M → (e_M → Prop) → Prop) (k122 : Nat → Int → Int → Int → Int → Int → e_M → Prop) (Q : e_M → Prop) (a1 : Nat) (x4 : Int) (x5 : Int) (x8 : Int) (x10 : Int) (x11 : Int) (M : e_M) : Prop :=
  (k122 a1 x4 x5 x8 x10 (e_w32 (x11 + 1)) M)
def VX5_layBorder (c_X3_stretchOf : Nat → Int → Int → e_M → (Int → Prop) → Prop) (c_X3_next : Nat → Int → e_M → (Int → Prop) → Prop) (c_X5_lay : Int → Int → e_M → (e_M → Prop) → Prop) (k106 : Nat → Int → Int → Int → Int → e_M → Prop) (k115 : Nat → Int → Int → Int → Int → e_M → Prop) (Q : e_M → Prop) (a1 : Nat) (x2 : Int) (x3 : Int) (x4 : Int) (x5 : Int) (M : e_M) : Prop :=
  (c_X3_stretchOf a1 x2 x3 M (fun r1 => (c_X3_stretchOf a1 x4 x5 M (fun r2 => ((r1 < 0 → (Q M)) ∧ (0 ≤ r1 → ((0 ≤ r2 → ((0 ≤ r1 ∧ r1 < 40) ∧ ((0 ≤ r1 ∧ r1 < 40) ∧ ((0 ≤ r1 ∧ r1 < 40) ∧ ((0 ≤ r1 ∧ r1 < 40) ∧ (∀ y3 : Int, y3 = e_w32 ((e_w32 ((e_w32 ((e_abs (e_w32 (x4 - (M (a1 + 1) (r1.toNat))))) + (e_abs (e_w32 (x5 - (M (a1 + 2) (r1.toNat))))))) - (e_abs (e_w32 (x2 - (M (a1 + 1) (r1.toNat))))))) - (e_abs (e_w32 (x3 - (M (a1 + 2) (r1.toNat)))))) → (((e_w32 (r2 - r1)) < 0 → (k106 a1 x4 x5 r1 (e_w32 (r2 - r1)) M)) ∧ (0 ≤ (e_w32 (r2 - r1)) → ((¬ (e_w32 (r2 - r1)) = 0 → (k115 a1 x4 x5 r1 (e_w32 (r2 - r1)) M)) ∧ ((e_w32 (r2 - r1)) = 0 → ((0 ≤ y3 → (k115 a1 x4 x5 r1 (e_w32 (r2 - r1)) M)) ∧ (y3 < 0 → (k106 a1 x4 x5 r1 (e_w32 (r2 - r1)) M))))))))))))) ∧ (r2 < 0 → (Q M)))))))))
def yX5_layBorder (i : Nat) : e_Y := x_get YX5_layBorder [YX3_stretchOf, YX3_next, YX5_lay] i
def pX5_layBorderf : List x_I := [(0, 4, 1, 1, 0, 0, []), (1, 2, 1, 2, 0, 0, []), (2, 2, 1, 3, 0, 0, []), (3, 40, 0, 3, 5, 0, []), (6, 5, 2, 6, 0, 0, []), (8, 4, 1, 1, 0, 0, []), (9, 2, 2, 4, 0, 0, []), (11, 2, 2, 5, 0, 0, []), (13, 40, 0, 3, 5, 0, []), (16, 5, 2, 7, 0, 0, []), (18, 2, 2, 6, 0, 0, []), (20, 17, 28, 2, 15, 0, []), (23, 2, 2, 7, 0, 0, []), (25, 17, 29, 3, 16, 0, []), (28, 44, 0, 0, 0, 0, []), (29, 2, 2, 7, 0, 0, []), (31, 2, 2, 6, 0, 0, []), (33, 9, 0, 1, 0, 0, []), (34, 5, 2, 8, 0, 0, []), (36, 2, 2, 4, 0, 0, []), (38, 4, 1, 1, 0, 0, []), (39, 25, 3, 0, 4, 0, [(0, 20, 40), (0, 1, 1)]), (42, 2, 2, 6, 0, 0, []), (44, 27, 0, 0, 0, 0, []), (45, 9, 0, 1, 0, 0, []), (46, 16, 0, 0, 0, 0, []), (49, 2, 2, 5, 0, 0, []), (51, 4, 1, 1, 0, 0, []), (52, 25, 3, 1, 4, 0, [(0, 20, 40), (0, 1, 2)]), (55, 2, 2, 6, 0, 0, []), (57, 27, 0, 0, 0, 0, []), (58, 9, 0, 1, 0, 0, []), (59, 16, 0, 0, 0, 0, []), (62, 9, 0, 0, 0, 0, []), (63, 2, 1, 2, 0, 0, []), (64, 4, 1, 1, 0, 0, []), (65, 25, 3, 0, 4, 0, [(0, 20, 40), (0, 1, 1)]), (68, 2, 2, 6, 0, 0, []), (70, 27, 0, 0, 0, 0, []), (71, 9, 0, 1, 0, 0, []), (72, 16, 0, 0, 0, 0, []), (75, 9, 0, 1, 0, 0, []), (76, 2, 1, 3, 0, 0, []), (77, 4, 1, 1, 0, 0, []), (78, 25, 3, 1, 4, 0, [(0, 20, 40), (0, 1, 2)]), (81, 2, 2, 6, 0, 0, []), (83, 27, 0, 0, 0, 0, []), (84, 9, 0, 1, 0, 0, []), (85, 16, 0, 0, 0, 0, []), (88, 9, 0, 1, 0, 0, []), (89, 33, 0, 0, 0, 0, []), (89, 5, 2, 9, 0, 0, []), (91, 2, 2, 8, 0, 0, []), (93, 17, 106, 2, 59, 0, []), (96, 2, 2, 8, 0, 0, []), (98, 17, 115, 1, 65, 0, []), (101, 2, 2, 9, 0, 0, []), (103, 17, 115, 3, 65, 0, []), (106, 49, 0, 0, 0, 0, []), (106, 2, 2, 8, 0, 0, []), (108, 4, 1, 1, 0, 0, []), (109, 25, 3, 2, 0, 0, []), (112, 9, 0, 0, 0, 0, []), (113, 5, 2, 8, 0, 0, []), (115, 49, 0, 0, 0, 0, []), (115, 2, 2, 6, 0, 0, []), (117, 5, 2, 10, 0, 0, []), (119, 0, 1, 0, 0, 0, []), (120, 5, 2, 11, 0, 0, []), (122, 49, 0, 0, 0, 0, []), (122, 2, 2, 11, 0, 0, []), (124, 2, 2, 8, 0, 0, []), (126, 18, 185, 3, 104, 0, []), (129, 4, 1, 1, 0, 0, []), (130, 2, 2, 10, 0, 0, []), (132, 40, 1, 2, 5, 0, []), (135, 5, 2, 10, 0, 0, []), (137, 4, 1, 1, 0, 0, []), (138, 25, 3, 0, 4, 0, [(0, 20, 40), (0, 1, 1)]), (141, 2, 2, 10, 0, 0, []), (143, 27, 0, 0, 0, 0, []), (144, 2, 2, 4, 0, 0, []), (146, 18, 161, 1, 90, 0, []), (149, 4, 1, 1, 0, 0, []), (150, 25, 3, 1, 4, 0, [(0, 20, 40), (0, 1, 2)]), (153, 2, 2, 10, 0, 0, []), (155, 27, 0, 0, 0, 0, []), (156, 2, 2, 5, 0, 0, []), (158, 18, 179, 0, 101, 0, []), (161, 49, 0, 0, 0, 0, []), (161, 4, 1, 0, 0, 0, []), (162, 4, 1, 1, 0, 0, []), (163, 25, 3, 0, 4, 0, [(0, 20, 40), (0, 1, 1)]), (166, 2, 2, 10, 0, 0, []), (168, 27, 0, 0, 0, 0, []), (169, 4, 1, 1, 0, 0, []), (170, 25, 3, 1, 4, 0, [(0, 20, 40), (0, 1, 2)]), (173, 2, 2, 10, 0, 0, []), (175, 27, 0, 0, 0, 0, []), (176, 40, 2, 3, 7, 0, []), (179, 49, 0, 0, 0, 0, []), (179, 8, 0, 11, 0, 1, []), (182, 19, 122, 0, 70, 0, []), (185, 44, 0, 0, 0, 0, [])]
set_option maxRecDepth 20000 in
theorem qX5_layBorderf : f_all yX5_layBorder YX5_layBorder pX5_layBorderf :=
  ⟨f_aload_n (n := 1) (e_dx DX5_layBorder_0 0 rfl) rfl,
  f_iload_n (n := 2) (e_dx DX5_layBorder_0 1 rfl) rfl,
  f_iload_n (n := 3) (e_dx DX5_layBorder_0 2 rfl) rfl,
  x_callV (e_dx DX5_layBorder_0 3 rfl) mwX3_stretchOf vwX3_stretchOf cX5_110 rfl,
  f_istore (e_dx DX5_layBorder_0 4 rfl) (by decide),
  f_aload_n (n := 1) (e_dx DX5_layBorder_0 5 rfl) rfl,
  f_iload (e_dx DX5_layBorder_0 6 rfl),
  f_iload (e_dx DX5_layBorder_0 7 rfl),
  x_callV (e_dx DX5_layBorder_0 8 rfl) mwX3_stretchOf vwX3_stretchOf cX5_110 rfl,
  f_istore (e_dx DX5_layBorder_0 9 rfl) (by decide),
  f_iload (e_dx DX5_layBorder_0 10 rfl),
  f_if_lt (e_dx DX5_layBorder_0 11 rfl) rfl,
  f_iload (e_dx DX5_layBorder_0 12 rfl),
  f_if_ge (e_dx DX5_layBorder_0 13 rfl) rfl,
  ⟨(e_dx DX5_layBorder_0 14 rfl), rfl⟩,
  f_iload (e_dx DX5_layBorder_0 15 rfl),
  f_iload (e_dx DX5_layBorder_0 16 rfl),
  f_isub (e_dx DX5_layBorder_0 17 rfl),
  f_istore (e_dx DX5_layBorder_0 18 rfl) (by decide),
  f_iload (e_dx DX5_layBorder_0 19 rfl),
  f_aload_n (n := 1) (e_dx DX5_layBorder_0 20 rfl) rfl,
  f_getA (e_dx DX5_layBorder_0 21 rfl) fX5_96 rfl (by decide) (Nat.le_of_ble_eq_true rfl) rfl (by decide),
  f_iload (e_dx DX5_layBorder_0 22 rfl),
  f_iaload (e_dx DX5_layBorder_0 23 rfl),
  f_isub (e_dx DX5_layBorder_0 24 rfl),
  f_abs (e_dx DX5_layBorder_0 25 rfl) cX5_114 fm_s_abs fm_i fm_c_abs,
  f_iload (e_dx DX5_layBorder_0 26 rfl),
  f_aload_n (n := 1) (e_dx DX5_layBorder_0 27 rfl) rfl,
  f_getA (e_dx DX5_layBorder_0 28 rfl) fX5_97 rfl (by decide) (Nat.le_of_ble_eq_true rfl) rfl (by decide),
  f_iload (e_dx DX5_layBorder_0 29 rfl),
  f_iaload (e_dx DX5_layBorder_0 30 rfl),
  f_isub (e_dx DX5_layBorder_0 31 rfl),
  f_abs (e_dx DX5_layBorder_0 32 rfl) cX5_114 fm_s_abs fm_i fm_c_abs,
  f_iadd (e_dx DX5_layBorder_0 33 rfl),
  f_iload_n (n := 2) (e_dx DX5_layBorder_0 34 rfl) rfl,
  f_aload_n (n := 1) (e_dx DX5_layBorder_0 35 rfl) rfl,
  f_getA (e_dx DX5_layBorder_0 36 rfl) fX5_96 rfl (by decide) (Nat.le_of_ble_eq_true rfl) rfl (by decide),
  f_iload (e_dx DX5_layBorder_0 37 rfl),
  f_iaload (e_dx DX5_layBorder_0 38 rfl),
  f_isub (e_dx DX5_layBorder_0 39 rfl),
  f_abs (e_dx DX5_layBorder_1 0 rfl) cX5_114 fm_s_abs fm_i fm_c_abs,
  f_isub (e_dx DX5_layBorder_1 1 rfl),
  f_iload_n (n := 3) (e_dx DX5_layBorder_1 2 rfl) rfl,
  f_aload_n (n := 1) (e_dx DX5_layBorder_1 3 rfl) rfl,
  f_getA (e_dx DX5_layBorder_1 4 rfl) fX5_97 rfl (by decide) (Nat.le_of_ble_eq_true rfl) rfl (by decide),
  f_iload (e_dx DX5_layBorder_1 5 rfl),
  f_iaload (e_dx DX5_layBorder_1 6 rfl),
  f_isub (e_dx DX5_layBorder_1 7 rfl),
  f_abs (e_dx DX5_layBorder_1 8 rfl) cX5_114 fm_s_abs fm_i fm_c_abs,
  f_isub (e_dx DX5_layBorder_1 9 rfl),
  f_g33,
  f_istore (e_dx DX5_layBorder_1 10 rfl) (by decide),
  f_iload (e_dx DX5_layBorder_1 11 rfl),
  f_if_lt (e_dx DX5_layBorder_1 12 rfl) rfl,
  f_iload (e_dx DX5_layBorder_1 13 rfl),
  f_if_ne (e_dx DX5_layBorder_1 14 rfl) rfl,
  f_iload (e_dx DX5_layBorder_1 15 rfl),
  f_if_ge (e_dx DX5_layBorder_1 16 rfl) rfl,
  trivial,
  f_iload (e_dx DX5_layBorder_1 17 rfl),
  f_aload_n (n := 1) (e_dx DX5_layBorder_1 18 rfl) rfl,
  f_getf (e_dx DX5_layBorder_1 19 rfl) fX5_89 rfl (by decide) (by decide) (by decide),
  f_iadd (e_dx DX5_layBorder_1 20 rfl),
  f_istore (e_dx DX5_layBorder_1 21 rfl) (by decide),
  trivial,
  f_iload (e_dx DX5_layBorder_1 22 rfl),
  f_istore (e_dx DX5_layBorder_1 23 rfl) (by decide),
  f_iconst (e_dx DX5_layBorder_1 24 rfl) ⟨by decide, by decide⟩,
  f_istore (e_dx DX5_layBorder_1 25 rfl) (by decide),
  trivial,
  f_iload (e_dx DX5_layBorder_1 26 rfl),
  f_iload (e_dx DX5_layBorder_1 27 rfl),
  f_icmp_ge (e_dx DX5_layBorder_1 28 rfl) rfl,
  f_aload_n (n := 1) (e_dx DX5_layBorder_1 29 rfl) rfl,
  f_iload (e_dx DX5_layBorder_1 30 rfl),
  x_callV (e_dx DX5_layBorder_1 31 rfl) mwX3_next vwX3_next cX5_92 rfl,
  f_istore (e_dx DX5_layBorder_1 32 rfl) (by decide),
  f_aload_n (n := 1) (e_dx DX5_layBorder_1 33 rfl) rfl,
  f_getA (e_dx DX5_layBorder_1 34 rfl) fX5_96 rfl (by decide) (Nat.le_of_ble_eq_true rfl) rfl (by decide),
  f_iload (e_dx DX5_layBorder_1 35 rfl),
  f_iaload (e_dx DX5_layBorder_1 36 rfl),
  f_iload (e_dx DX5_layBorder_1 37 rfl),
  f_icmp_ne (e_dx DX5_layBorder_1 38 rfl) rfl,
  f_aload_n (n := 1) (e_dx DX5_layBorder_1 39 rfl) rfl,
  f_getA (e_dx DX5_layBorder_2 0 rfl) fX5_97 rfl (by decide) (Nat.le_of_ble_eq_true rfl) rfl (by decide),
  f_iload (e_dx DX5_layBorder_2 1 rfl),
  f_iaload (e_dx DX5_layBorder_2 2 rfl),
  f_iload (e_dx DX5_layBorder_2 3 rfl),
  f_icmp_eq (e_dx DX5_layBorder_2 4 rfl) rfl,
  trivial,
  f_aload_n (n := 0) (e_dx DX5_layBorder_2 5 rfl) rfl,
  f_aload_n (n := 1) (e_dx DX5_layBorder_2 6 rfl) rfl,
  f_getA (e_dx DX5_layBorder_2 7 rfl) fX5_96 rfl (by decide) (Nat.le_of_ble_eq_true rfl) rfl (by decide),
  f_iload (e_dx DX5_layBorder_2 8 rfl),
  f_iaload (e_dx DX5_layBorder_2 9 rfl),
  f_aload_n (n := 1) (e_dx DX5_layBorder_2 10 rfl) rfl,
  f_getA (e_dx DX5_layBorder_2 11 rfl) fX5_97 rfl (by decide) (Nat.le_of_ble_eq_true rfl) rfl (by decide),
  f_iload (e_dx DX5_layBorder_2 12 rfl),
  f_iaload (e_dx DX5_layBorder_2 13 rfl),
  x_callV (e_dx DX5_layBorder_2 14 rfl) mwX5_lay vwX5_lay cX5_106 rfl,
  trivial,
  f_g8 (e_dx DX5_layBorder_2 15 rfl) ⟨by decide, by decide⟩,
  f_g19 (e_dx DX5_layBorder_2 16 rfl) rfl,
  ⟨(e_dx DX5_layBorder_2 17 rfl), rfl⟩, trivial⟩
def lX5_layBorder (c_X3_stretchOf : Nat → Int → Int → e_M → (Int → Prop) → Prop) (c_X3_next : Nat → Int → e_M → (Int → Prop) → Prop) (c_X5_lay : Int → Int → e_M → (e_M → Prop) → Prop) : List (Nat × f_Wt) := [(0, f_wm [(3, 3, 3), (1, 0, 0), (1, 0, 0)] (fun ar M R => c_X3_stretchOf (f_va (f_nth ar 0)) (f_vi (f_nth ar 1)) (f_vi (f_nth ar 2)) M (fun r => R (some (.inl r)) M))), (1, f_wm [(3, 3, 3), (1, 0, 0)] (fun ar M R => c_X3_next (f_va (f_nth ar 0)) (f_vi (f_nth ar 1)) M (fun r => R (some (.inl r)) M))), (2, f_wm [(4436, 5, 12), (1, 0, 0), (1, 0, 0)] (fun ar M R => c_X5_lay (f_vi (f_nth ar 1)) (f_vi (f_nth ar 2)) M (fun M => R none M)))]
set_option maxRecDepth 20000 in
theorem BX5_layBorder_106 {sh : Nat → Nat × Nat} {t : Nat} {rm : Nat × Nat × Nat} {cs : Nat × Nat} {R : f_Rt} {c_X3_stretchOf : Nat → Int → Int → e_M → (Int → Prop) → Prop} {c_X3_next : Nat → Int → e_M → (Int → Prop) → Prop} {c_X5_lay : Int → Int → e_M → (e_M → Prop) → Prop} {k115 : Nat → Int → Int → Int → Int → e_M → Prop} {a1 : Nat} {x4 : Int} {x5 : Int} {x6 : Int} {x8 : Int} {M : e_M} (C : f_Hy sh t yX5_layBorder rm cs 6 (lX5_layBorder c_X3_stretchOf c_X3_next c_X5_lay) R) (h115 : ∀ (a1 : Nat) (x4 : Int) (x5 : Int) (x6 : Int) (x8 : Int) (M : e_M), k115 a1 x4 x5 x6 x8 M → f_E sh t YX5_layBorder rm cs (f_Q sh t R) 115 [.inr (.inr (.inl (5, 12, 4426))), .inr (.inr (.inl (3, 3, a1))), .inr (.inr (.inr ())), .inr (.inr (.inr ())), .inl x4, .inl x5, .inl x6, .inr (.inr (.inr ())), .inl x8, .inr (.inr (.inr ())), .inr (.inr (.inr ())), .inr (.inr (.inr ()))] [] M) (h : VX5_layBorder_106 c_X3_stretchOf c_X3_next c_X5_lay k115 (fun M => R none M) a1 x4 x5 x6 x8 M) : f_E sh t YX5_layBorder rm cs (f_Q sh t R) 106 [.inr (.inr (.inl (5, 12, 4426))), .inr (.inr (.inl (3, 3, a1))), .inr (.inr (.inr ())), .inr (.inr (.inr ())), .inl x4, .inl x5, .inl x6, .inr (.inr (.inr ())), .inl x8, .inr (.inr (.inr ())), .inr (.inr (.inr ())), .inr (.inr (.inr ()))] [] M :=
  f_go (KC := f_kc [(115, f_pl [(4436, 5, 12), (3, 3, 3), (0, 0, 0), (0, 0, 0), (1, 0, 0), (1, 0, 0), (1, 0, 0), (0, 0, 0), (1, 0, 0), (0, 0, 0), (0, 0, 0), (0, 0, 0)] [] (fun ls st M => k115 (f_va (f_nth ls 1)) (f_vi (f_nth ls 4)) (f_vi (f_nth ls 5)) (f_vi (f_nth ls 6)) (f_vi (f_nth ls 8)) M))]) C qX5_layBorderf (f_kc_cons (f_pl_ok rfl (fun ls st M h => h115 _ _ _ _ _ M h)) f_kc_nil) 106 59 h
set_option maxRecDepth 20000 in
theorem BX5_layBorder_115 {sh : Nat → Nat × Nat} {t : Nat} {rm : Nat × Nat × Nat} {cs : Nat × Nat} {R : f_Rt} {c_X3_stretchOf : Nat → Int → Int → e_M → (Int → Prop) → Prop} {c_X3_next : Nat → Int → e_M → (Int → Prop) → Prop} {c_X5_lay : Int → Int → e_M → (e_M → Prop) → Prop} {k122 : Nat → Int → Int → Int → Int → Int → e_M → Prop} {a1 : Nat} {x4 : Int} {x5 : Int} {x6 : Int} {x8 : Int} {M : e_M} (C : f_Hy sh t yX5_layBorder rm cs 6 (lX5_layBorder c_X3_stretchOf c_X3_next c_X5_lay) R) (h122 : ∀ (a1 : Nat) (x4 : Int) (x5 : Int) (x8 : Int) (x10 : Int) (x11 : Int) (M : e_M), k122 a1 x4 x5 x8 x10 x11 M → f_E sh t YX5_layBorder rm cs (f_Q sh t R) 122 [.inr (.inr (.inl (5, 12, 4426))), .inr (.inr (.inl (3, 3, a1))), .inr (.inr (.inr ())), .inr (.inr (.inr ())), .inl x4, .inl x5, .inr (.inr (.inr ())), .inr (.inr (.inr ())), .inl x8, .inr (.inr (.inr ())), .inl x10, .inl x11] [] M) (h : VX5_layBorder_115 c_X3_stretchOf c_X3_next c_X5_lay k122 (fun M => R none M) a1 x4 x5 x6 x8 M) : f_E sh t YX5_layBorder rm cs (f_Q sh t R) 115 [.inr (.inr (.inl (5, 12, 4426))), .inr (.inr (.inl (3, 3, a1))), .inr (.inr (.inr ())), .inr (.inr (.inr ())), .inl x4, .inl x5, .inl x6, .inr (.inr (.inr ())), .inl x8, .inr (.inr (.inr ())), .inr (.inr (.inr ())), .inr (.inr (.inr ()))] [] M :=
  f_go (KC := f_kc [(122, f_pl [(4436, 5, 12), (3, 3, 3), (0, 0, 0), (0, 0, 0), (1, 0, 0), (1, 0, 0), (0, 0, 0), (0, 0, 0), (1, 0, 0), (0, 0, 0), (1, 0, 0), (1, 0, 0)] [] (fun ls st M => k122 (f_va (f_nth ls 1)) (f_vi (f_nth ls 4)) (f_vi (f_nth ls 5)) (f_vi (f_nth ls 8)) (f_vi (f_nth ls 10)) (f_vi (f_nth ls 11)) M))]) C qX5_layBorderf (f_kc_cons (f_pl_ok rfl (fun ls st M h => h122 _ _ _ _ _ _ M h)) f_kc_nil) 106 65 h
set_option maxRecDepth 20000 in
theorem BX5_layBorder_122 {sh : Nat → Nat × Nat} {t : Nat} {rm : Nat × Nat × Nat} {cs : Nat × Nat} {R : f_Rt} {c_X3_stretchOf : Nat → Int → Int → e_M → (Int → Prop) → Prop} {c_X3_next : Nat → Int → e_M → (Int → Prop) → Prop} {c_X5_lay : Int → Int → e_M → (e_M → Prop) → Prop} {k161 : Nat → Int → Int → Int → Int → Int → e_M → Prop} {k179 : Nat → Int → Int → Int → Int → Int → e_M → Prop} {a1 : Nat} {x4 : Int} {x5 : Int} {x8 : Int} {x10 : Int} {x11 : Int} {M : e_M} (C : f_Hy sh t yX5_layBorder rm cs 6 (lX5_layBorder c_X3_stretchOf c_X3_next c_X5_lay) R) (h161 : ∀ (a1 : Nat) (x4 : Int) (x5 : Int) (x8 : Int) (x10 : Int) (x11 : Int) (M : e_M), k161 a1 x4 x5 x8 x10 x11 M → f_E sh t YX5_layBorder rm cs (f_Q sh t R) 161 [.inr (.inr (.inl (5, 12, 4426))), .inr (.inr (.inl (3, 3, a1))), .inr (.inr (.inr ())), .inr (.inr (.inr ())), .inl x4, .inl x5, .inr (.inr (.inr ())), .inr (.inr (.inr ())), .inl x8, .inr (.inr (.inr ())), .inl x10, .inl x11] [] M) (h179 : ∀ (a1 : Nat) (x4 : Int) (x5 : Int) (x8 : Int) (x10 : Int) (x11 : Int) (M : e_M), k179 a1 x4 x5 x8 x10 x11 M → f_E sh t YX5_layBorder rm cs (f_Q sh t R) 179 [.inr (.inr (.inl (5, 12, 4426))), .inr (.inr (.inl (3, 3, a1))), .inr (.inr (.inr ())), .inr (.inr (.inr ())), .inl x4, .inl x5, .inr (.inr (.inr ())), .inr (.inr (.inr ())), .inl x8, .inr (.inr (.inr ())), .inl x10, .inl x11] [] M) (h : VX5_layBorder_122 c_X3_stretchOf c_X3_next c_X5_lay k161 k179 (fun M => R none M) a1 x4 x5 x8 x10 x11 M) : f_E sh t YX5_layBorder rm cs (f_Q sh t R) 122 [.inr (.inr (.inl (5, 12, 4426))), .inr (.inr (.inl (3, 3, a1))), .inr (.inr (.inr ())), .inr (.inr (.inr ())), .inl x4, .inl x5, .inr (.inr (.inr ())), .inr (.inr (.inr ())), .inl x8, .inr (.inr (.inr ())), .inl x10, .inl x11] [] M :=
  f_go (KC := f_kc [(161, f_pl [(4436, 5, 12), (3, 3, 3), (0, 0, 0), (0, 0, 0), (1, 0, 0), (1, 0, 0), (0, 0, 0), (0, 0, 0), (1, 0, 0), (0, 0, 0), (1, 0, 0), (1, 0, 0)] [] (fun ls st M => k161 (f_va (f_nth ls 1)) (f_vi (f_nth ls 4)) (f_vi (f_nth ls 5)) (f_vi (f_nth ls 8)) (f_vi (f_nth ls 10)) (f_vi (f_nth ls 11)) M)), (179, f_pl [(4436, 5, 12), (3, 3, 3), (0, 0, 0), (0, 0, 0), (1, 0, 0), (1, 0, 0), (0, 0, 0), (0, 0, 0), (1, 0, 0), (0, 0, 0), (1, 0, 0), (1, 0, 0)] [] (fun ls st M => k179 (f_va (f_nth ls 1)) (f_vi (f_nth ls 4)) (f_vi (f_nth ls 5)) (f_vi (f_nth ls 8)) (f_vi (f_nth ls 10)) (f_vi (f_nth ls 11)) M))]) C qX5_layBorderf (f_kc_cons (f_pl_ok rfl (fun ls st M h => h161 _ _ _ _ _ _ M h)) (f_kc_cons (f_pl_ok rfl (fun ls st M h => h179 _ _ _ _ _ _ M h)) f_kc_nil)) 106 70 h
set_option maxRecDepth 20000 in
theorem BX5_layBorder_161 {sh : Nat → Nat × Nat} {t : Nat} {rm : Nat × Nat × Nat} {cs : Nat × Nat} {R : f_Rt} {c_X3_stretchOf : Nat → Int → Int → e_M → (Int → Prop) → Prop} {c_X3_next : Nat → Int → e_M → (Int → Prop) → Prop} {c_X5_lay : Int → Int → e_M → (e_M → Prop) → Prop} {k179 : Nat → Int → Int → Int → Int → Int → e_M → Prop} {a1 : Nat} {x4 : Int} {x5 : Int} {x8 : Int} {x10 : Int} {x11 : Int} {M : e_M} (C : f_Hy sh t yX5_layBorder rm cs 6 (lX5_layBorder c_X3_stretchOf c_X3_next c_X5_lay) R) (h179 : ∀ (a1 : Nat) (x4 : Int) (x5 : Int) (x8 : Int) (x10 : Int) (x11 : Int) (M : e_M), k179 a1 x4 x5 x8 x10 x11 M → f_E sh t YX5_layBorder rm cs (f_Q sh t R) 179 [.inr (.inr (.inl (5, 12, 4426))), .inr (.inr (.inl (3, 3, a1))), .inr (.inr (.inr ())), .inr (.inr (.inr ())), .inl x4, .inl x5, .inr (.inr (.inr ())), .inr (.inr (.inr ())), .inl x8, .inr (.inr (.inr ())), .inl x10, .inl x11] [] M) (h : VX5_layBorder_161 c_X3_stretchOf c_X3_next c_X5_lay k179 (fun M => R none M) a1 x4 x5 x8 x10 x11 M) : f_E sh t YX5_layBorder rm cs (f_Q sh t R) 161 [.inr (.inr (.inl (5, 12, 4426))), .inr (.inr (.inl (3, 3, a1))), .inr (.inr (.inr ())), .inr (.inr (.inr ())), .inl x4, .inl x5, .inr (.inr (.inr ())), .inr (.inr (.inr ())), .inl x8, .inr (.inr (.inr ())), .inl x10, .inl x11] [] M :=
  f_go (KC := f_kc [(179, f_pl [(4436, 5, 12), (3, 3, 3), (0, 0, 0), (0, 0, 0), (1, 0, 0), (1, 0, 0), (0, 0, 0), (0, 0, 0), (1, 0, 0), (0, 0, 0), (1, 0, 0), (1, 0, 0)] [] (fun ls st M => k179 (f_va (f_nth ls 1)) (f_vi (f_nth ls 4)) (f_vi (f_nth ls 5)) (f_vi (f_nth ls 8)) (f_vi (f_nth ls 10)) (f_vi (f_nth ls 11)) M))]) C qX5_layBorderf (f_kc_cons (f_pl_ok rfl (fun ls st M h => h179 _ _ _ _ _ _ M h)) f_kc_nil) 106 90 h
set_option maxRecDepth 20000 in
theorem BX5_layBorder_179 {sh : Nat → Nat × Nat} {t : Nat} {rm : Nat × Nat × Nat} {cs : Nat × Nat} {R : f_Rt} {c_X3_stretchOf : Nat → Int → Int → e_M → (Int → Prop) → Prop} {c_X3_next : Nat → Int → e_M → (Int → Prop) → Prop} {c_X5_lay : Int → Int → e_M → (e_M → Prop) → Prop} {k122 : Nat → Int → Int → Int → Int → Int → e_M → Prop} {a1 : Nat} {x4 : Int} {x5 : Int} {x8 : Int} {x10 : Int} {x11 : Int} {M : e_M} (C : f_Hy sh t yX5_layBorder rm cs 6 (lX5_layBorder c_X3_stretchOf c_X3_next c_X5_lay) R) (h122 : ∀ (a1 : Nat) (x4 : Int) (x5 : Int) (x8 : Int) (x10 : Int) (x11 : Int) (M : e_M), k122 a1 x4 x5 x8 x10 x11 M → f_E sh t YX5_layBorder rm cs (f_Q sh t R) 122 [.inr (.inr (.inl (5, 12, 4426))), .inr (.inr (.inl (3, 3, a1))), .inr (.inr (.inr ())), .inr (.inr (.inr ())), .inl x4, .inl x5, .inr (.inr (.inr ())), .inr (.inr (.inr ())), .inl x8, .inr (.inr (.inr ())), .inl x10, .inl x11] [] M) (h : VX5_layBorder_179 c_X3_stretchOf c_X3_next c_X5_lay k122 (fun M => R none M) a1 x4 x5 x8 x10 x11 M) : f_E sh t YX5_layBorder rm cs (f_Q sh t R) 179 [.inr (.inr (.inl (5, 12, 4426))), .inr (.inr (.inl (3, 3, a1))), .inr (.inr (.inr ())), .inr (.inr (.inr ())), .inl x4, .inl x5, .inr (.inr (.inr ())), .inr (.inr (.inr ())), .inl x8, .inr (.inr (.inr ())), .inl x10, .inl x11] [] M :=
  f_go (KC := f_kc [(122, f_pl [(4436, 5, 12), (3, 3, 3), (0, 0, 0), (0, 0, 0), (1, 0, 0), (1, 0, 0), (0, 0, 0), (0, 0, 0), (1, 0, 0), (0, 0, 0), (1, 0, 0), (1, 0, 0)] [] (fun ls st M => k122 (f_va (f_nth ls 1)) (f_vi (f_nth ls 4)) (f_vi (f_nth ls 5)) (f_vi (f_nth ls 8)) (f_vi (f_nth ls 10)) (f_vi (f_nth ls 11)) M))]) C qX5_layBorderf (f_kc_cons (f_pl_ok rfl (fun ls st M h => h122 _ _ _ _ _ _ M h)) f_kc_nil) 106 101 h
set_option maxRecDepth 20000 in
theorem BX5_layBorder {sh : Nat → Nat × Nat} {t : Nat} {rm : Nat × Nat × Nat} {cs : Nat × Nat} {R : f_Rt} {c_X3_stretchOf : Nat → Int → Int → e_M → (Int → Prop) → Prop} {c_X3_next : Nat → Int → e_M → (Int → Prop) → Prop} {c_X5_lay : Int → Int → e_M → (e_M → Prop) → Prop} {k106 : Nat → Int → Int → Int → Int → e_M → Prop} {k115 : Nat → Int → Int → Int → Int → e_M → Prop} {a1 : Nat} {x2 : Int} {x3 : Int} {x4 : Int} {x5 : Int} {M : e_M} (C : f_Hy sh t yX5_layBorder rm cs 6 (lX5_layBorder c_X3_stretchOf c_X3_next c_X5_lay) R) (h106 : ∀ (a1 : Nat) (x4 : Int) (x5 : Int) (x6 : Int) (x8 : Int) (M : e_M), k106 a1 x4 x5 x6 x8 M → f_E sh t YX5_layBorder rm cs (f_Q sh t R) 106 [.inr (.inr (.inl (5, 12, 4426))), .inr (.inr (.inl (3, 3, a1))), .inr (.inr (.inr ())), .inr (.inr (.inr ())), .inl x4, .inl x5, .inl x6, .inr (.inr (.inr ())), .inl x8, .inr (.inr (.inr ())), .inr (.inr (.inr ())), .inr (.inr (.inr ()))] [] M) (h115 : ∀ (a1 : Nat) (x4 : Int) (x5 : Int) (x6 : Int) (x8 : Int) (M : e_M), k115 a1 x4 x5 x6 x8 M → f_E sh t YX5_layBorder rm cs (f_Q sh t R) 115 [.inr (.inr (.inl (5, 12, 4426))), .inr (.inr (.inl (3, 3, a1))), .inr (.inr (.inr ())), .inr (.inr (.inr ())), .inl x4, .inl x5, .inl x6, .inr (.inr (.inr ())), .inl x8, .inr (.inr (.inr ())), .inr (.inr (.inr ())), .inr (.inr (.inr ()))] [] M) (h : VX5_layBorder c_X3_stretchOf c_X3_next c_X5_lay k106 k115 (fun M => R none M) a1 x2 x3 x4 x5 M) : f_E sh t YX5_layBorder rm cs (f_Q sh t R) 0 [.inr (.inr (.inl (5, 12, 4426))), .inr (.inr (.inl (3, 3, a1))), .inl x2, .inl x3, .inl x4, .inl x5, .inr (.inr (.inr ())), .inr (.inr (.inr ())), .inr (.inr (.inr ())), .inr (.inr (.inr ())), .inr (.inr (.inr ())), .inr (.inr (.inr ()))] [] M :=
  f_go (KC := f_kc [(106, f_pl [(4436, 5, 12), (3, 3, 3), (0, 0, 0), (0, 0, 0), (1, 0, 0), (1, 0, 0), (1, 0, 0), (0, 0, 0), (1, 0, 0), (0, 0, 0), (0, 0, 0), (0, 0, 0)] [] (fun ls st M => k106 (f_va (f_nth ls 1)) (f_vi (f_nth ls 4)) (f_vi (f_nth ls 5)) (f_vi (f_nth ls 6)) (f_vi (f_nth ls 8)) M)), (115, f_pl [(4436, 5, 12), (3, 3, 3), (0, 0, 0), (0, 0, 0), (1, 0, 0), (1, 0, 0), (1, 0, 0), (0, 0, 0), (1, 0, 0), (0, 0, 0), (0, 0, 0), (0, 0, 0)] [] (fun ls st M => k115 (f_va (f_nth ls 1)) (f_vi (f_nth ls 4)) (f_vi (f_nth ls 5)) (f_vi (f_nth ls 6)) (f_vi (f_nth ls 8)) M))]) C qX5_layBorderf (f_kc_cons (f_pl_ok rfl (fun ls st M h => h106 _ _ _ _ _ M h)) (f_kc_cons (f_pl_ok rfl (fun ls st M h => h115 _ _ _ _ _ M h)) f_kc_nil)) 106 0 h
def WX5_layBorder_179 (H122 : Nat → Int → Int → Int → Int → Int → e_M → Prop) (Q : e_M → Prop) (a1 : Nat) (x4 : Int) (x5 : Int) (x8 : Int) (x10 : Int) (x11 : Int) (M : e_M) : Prop :=
  VX5_layBorder_179 WX3_stretchOf WX3_next WX5_lay H122 Q a1 x4 x5 x8 x10 x11 M
def WX5_layBorder_161 (H122 : Nat → Int → Int → Int → Int → Int → e_M → Prop) (Q : e_M → Prop) (a1 : Nat) (x4 : Int) (x5 : Int) (x8 : Int) (x10 : Int) (x11 : Int) (M : e_M) : Prop :=
  VX5_layBorder_161 WX3_stretchOf WX3_next WX5_lay (WX5_layBorder_179 H122 Q) Q a1 x4 x5 x8 x10 x11 M
def WX5_layBorder_122 (Q : e_M → Prop) : Nat → Nat → Int → Int → Int → Int → Int → e_M → Prop
  | 0, _, _, _, _, _, _, _ => False
  | n + 1, a1, x4, x5, x8, x10, x11, M =>
    VX5_layBorder_122 WX3_stretchOf WX3_next WX5_lay (WX5_layBorder_161 (WX5_layBorder_122 Q n) Q) (WX5_layBorder_179 (WX5_layBorder_122 Q n) Q) Q a1 x4 x5 x8 x10 x11 M
def WX5_layBorder_115 (Q : e_M → Prop) (a1 : Nat) (x4 : Int) (x5 : Int) (x6 : Int) (x8 : Int) (M : e_M) : Prop :=
  VX5_layBorder_115 WX3_stretchOf WX3_next WX5_lay (fun a1 x4 x5 x8 x10 x11 M => ∃ j, WX5_layBorder_122 Q j a1 x4 x5 x8 x10 x11 M) Q a1 x4 x5 x6 x8 M
def WX5_layBorder_106 (Q : e_M → Prop) (a1 : Nat) (x4 : Int) (x5 : Int) (x6 : Int) (x8 : Int) (M : e_M) : Prop :=
  VX5_layBorder_106 WX3_stretchOf WX3_next WX5_lay (WX5_layBorder_115 Q) Q a1 x4 x5 x6 x8 M
def WX5_layBorder (a1 : Nat) (x2 : Int) (x3 : Int) (x4 : Int) (x5 : Int) (M : e_M) (Q : e_M → Prop) : Prop :=
  VX5_layBorder WX3_stretchOf WX3_next WX5_lay (WX5_layBorder_106 Q) (WX5_layBorder_115 Q) Q a1 x2 x3 x4 x5 M
theorem PX5_layBorder_179 {sh : Nat → Nat × Nat} {t : Nat} {rm : Nat × Nat × Nat} {cs : Nat × Nat} {R : f_Rt} {H122 : Nat → Int → Int → Int → Int → Int → e_M → Prop} {a1 : Nat} {x4 : Int} {x5 : Int} {x8 : Int} {x10 : Int} {x11 : Int} {M : e_M} (C : f_Hy sh t yX5_layBorder rm cs 6 (lX5_layBorder WX3_stretchOf WX3_next WX5_lay) R) (g122 : ∀ (a1 : Nat) (x4 : Int) (x5 : Int) (x8 : Int) (x10 : Int) (x11 : Int) (M : e_M), H122 a1 x4 x5 x8 x10 x11 M → f_E sh t YX5_layBorder rm cs (f_Q sh t R) 122 [.inr (.inr (.inl (5, 12, 4426))), .inr (.inr (.inl (3, 3, a1))), .inr (.inr (.inr ())), .inr (.inr (.inr ())), .inl x4, .inl x5, .inr (.inr (.inr ())), .inr (.inr (.inr ())), .inl x8, .inr (.inr (.inr ())), .inl x10, .inl x11] [] M) (h : WX5_layBorder_179 H122 (fun M => R none M) a1 x4 x5 x8 x10 x11 M) : f_E sh t YX5_layBorder rm cs (f_Q sh t R) 179 [.inr (.inr (.inl (5, 12, 4426))), .inr (.inr (.inl (3, 3, a1))), .inr (.inr (.inr ())), .inr (.inr (.inr ())), .inl x4, .inl x5, .inr (.inr (.inr ())), .inr (.inr (.inr ())), .inl x8, .inr (.inr (.inr ())), .inl x10, .inl x11] [] M :=
  BX5_layBorder_179 C g122 h
theorem PX5_layBorder_161 {sh : Nat → Nat × Nat} {t : Nat} {rm : Nat × Nat × Nat} {cs : Nat × Nat} {R : f_Rt} {H122 : Nat → Int → Int → Int → Int → Int → e_M → Prop} {a1 : Nat} {x4 : Int} {x5 : Int} {x8 : Int} {x10 : Int} {x11 : Int} {M : e_M} (C : f_Hy sh t yX5_layBorder rm cs 6 (lX5_layBorder WX3_stretchOf WX3_next WX5_lay) R) (g122 : ∀ (a1 : Nat) (x4 : Int) (x5 : Int) (x8 : Int) (x10 : Int) (x11 : Int) (M : e_M), H122 a1 x4 x5 x8 x10 x11 M → f_E sh t YX5_layBorder rm cs (f_Q sh t R) 122 [.inr (.inr (.inl (5, 12, 4426))), .inr (.inr (.inl (3, 3, a1))), .inr (.inr (.inr ())), .inr (.inr (.inr ())), .inl x4, .inl x5, .inr (.inr (.inr ())), .inr (.inr (.inr ())), .inl x8, .inr (.inr (.inr ())), .inl x10, .inl x11] [] M) (h : WX5_layBorder_161 H122 (fun M => R none M) a1 x4 x5 x8 x10 x11 M) : f_E sh t YX5_layBorder rm cs (f_Q sh t R) 161 [.inr (.inr (.inl (5, 12, 4426))), .inr (.inr (.inl (3, 3, a1))), .inr (.inr (.inr ())), .inr (.inr (.inr ())), .inl x4, .inl x5, .inr (.inr (.inr ())), .inr (.inr (.inr ())), .inl x8, .inr (.inr (.inr ())), .inl x10, .inl x11] [] M :=
  BX5_layBorder_161 C (fun a1 x4 x5 x8 x10 x11 M h => PX5_layBorder_179 C g122 h) h
theorem PX5_layBorder_122 {sh : Nat → Nat × Nat} {t : Nat} {rm : Nat × Nat × Nat} {cs : Nat × Nat} {R : f_Rt} (C : f_Hy sh t yX5_layBorder rm cs 6 (lX5_layBorder WX3_stretchOf WX3_next WX5_lay) R) : ∀ (n : Nat) (a1 : Nat) (x4 : Int) (x5 : Int) (x8 : Int) (x10 : Int) (x11 : Int) (M : e_M), WX5_layBorder_122 (fun M => R none M) n a1 x4 x5 x8 x10 x11 M → f_E sh t YX5_layBorder rm cs (f_Q sh t R) 122 [.inr (.inr (.inl (5, 12, 4426))), .inr (.inr (.inl (3, 3, a1))), .inr (.inr (.inr ())), .inr (.inr (.inr ())), .inl x4, .inl x5, .inr (.inr (.inr ())), .inr (.inr (.inr ())), .inl x8, .inr (.inr (.inr ())), .inl x10, .inl x11] [] M := by
  intro n
  induction n with
  | zero => intro a1 x4 x5 x8 x10 x11 M h; exact h.elim
  | succ n ih => intro a1 x4 x5 x8 x10 x11 M h; exact BX5_layBorder_122 C (fun a1 x4 x5 x8 x10 x11 M h => PX5_layBorder_161 C ih h) (fun a1 x4 x5 x8 x10 x11 M h => PX5_layBorder_179 C ih h) h
theorem PX5_layBorder_115 {sh : Nat → Nat × Nat} {t : Nat} {rm : Nat × Nat × Nat} {cs : Nat × Nat} {R : f_Rt} {a1 : Nat} {x4 : Int} {x5 : Int} {x6 : Int} {x8 : Int} {M : e_M} (C : f_Hy sh t yX5_layBorder rm cs 6 (lX5_layBorder WX3_stretchOf WX3_next WX5_lay) R) (h : WX5_layBorder_115 (fun M => R none M) a1 x4 x5 x6 x8 M) : f_E sh t YX5_layBorder rm cs (f_Q sh t R) 115 [.inr (.inr (.inl (5, 12, 4426))), .inr (.inr (.inl (3, 3, a1))), .inr (.inr (.inr ())), .inr (.inr (.inr ())), .inl x4, .inl x5, .inl x6, .inr (.inr (.inr ())), .inl x8, .inr (.inr (.inr ())), .inr (.inr (.inr ())), .inr (.inr (.inr ()))] [] M :=
  BX5_layBorder_115 C (fun a1 x4 x5 x8 x10 x11 M ⟨j, h⟩ => PX5_layBorder_122 C j _ _ _ _ _ _ _ h) h
theorem PX5_layBorder_106 {sh : Nat → Nat × Nat} {t : Nat} {rm : Nat × Nat × Nat} {cs : Nat × Nat} {R : f_Rt} {a1 : Nat} {x4 : Int} {x5 : Int} {x6 : Int} {x8 : Int} {M : e_M} (C : f_Hy sh t yX5_layBorder rm cs 6 (lX5_layBorder WX3_stretchOf WX3_next WX5_lay) R) (h : WX5_layBorder_106 (fun M => R none M) a1 x4 x5 x6 x8 M) : f_E sh t YX5_layBorder rm cs (f_Q sh t R) 106 [.inr (.inr (.inl (5, 12, 4426))), .inr (.inr (.inl (3, 3, a1))), .inr (.inr (.inr ())), .inr (.inr (.inr ())), .inl x4, .inl x5, .inl x6, .inr (.inr (.inr ())), .inl x8, .inr (.inr (.inr ())), .inr (.inr (.inr ())), .inr (.inr (.inr ()))] [] M :=
  BX5_layBorder_106 C (fun a1 x4 x5 x6 x8 M h => PX5_layBorder_115 C h) h
theorem PX5_layBorder {sh : Nat → Nat × Nat} {t : Nat} {rm : Nat × Nat × Nat} {cs : Nat × Nat} {R : f_Rt} {a1 : Nat} {x2 : Int} {x3 : Int} {x4 : Int} {x5 : Int} {M : e_M} (C : f_Hy sh t yX5_layBorder rm cs 6 (lX5_layBorder WX3_stretchOf WX3_next WX5_lay) R) (h : WX5_layBorder a1 x2 x3 x4 x5 M (fun M => R none M)) : f_E sh t YX5_layBorder rm cs (f_Q sh t R) 0 [.inr (.inr (.inl (5, 12, 4426))), .inr (.inr (.inl (3, 3, a1))), .inl x2, .inl x3, .inl x4, .inl x5, .inr (.inr (.inr ())), .inr (.inr (.inr ())), .inr (.inr (.inr ())), .inr (.inr (.inr ())), .inr (.inr (.inr ())), .inr (.inr (.inr ()))] [] M :=
  BX5_layBorder C (fun a1 x4 x5 x6 x8 M h => PX5_layBorder_106 C h) (fun a1 x4 x5 x6 x8 M h => PX5_layBorder_115 C h) h
def wX5_layBorder : f_Wt := f_wm [(4436, 5, 12), (3, 3, 3), (1, 0, 0), (1, 0, 0), (1, 0, 0), (1, 0, 0)] (fun ar M R => WX5_layBorder (f_va (f_nth ar 1)) (f_vi (f_nth ar 2)) (f_vi (f_nth ar 3)) (f_vi (f_nth ar 4)) (f_vi (f_nth ar 5)) M (fun M => R none M))
theorem TX5_layBorder {sh : Nat → Nat × Nat} {t : Nat} : f_Mt sh t YX5_layBorder 6 (wX5_layBorder) :=
  f_Mt_of (k := 6) (Nat.le_of_ble_eq_true rfl) rfl rfl (fun ar M R rm cs h1 h2 h3 hX h => PX5_layBorder ⟨Nat.le_of_ble_eq_true rfl, h1, h2, h3, ⟨(f_Mt.up (Nat.le_of_ble_eq_true rfl) TX3_stretchOf), (f_Mt.up (Nat.le_of_ble_eq_true rfl) TX3_next), (f_Mt.up (Nat.le_of_ble_eq_true rfl) TX5_lay), trivial⟩, hX⟩ h)
def VX3_clear (Q : e_M → Prop) (a0 : Nat) (M : e_M) : Prop :=
  (∀ M1 : e_M, M1 = e_up M a0 2 0 → (Q M1))
def yX3_clear (i : Nat) : e_Y := x_get YX3_clear [] i
def pX3_clearf : List x_I := [(0, 4, 1, 0, 0, 0, []), (1, 0, 1, 0, 0, 0, []), (2, 26, 3, 2, 0, 0, []), (5, 44, 0, 0, 0, 0, [])]
set_option maxRecDepth 20000 in
theorem qX3_clearf : f_all yX3_clear YX3_clear pX3_clearf :=
  ⟨f_aload_n (n := 0) (e_dx DX3_clear_0 0 rfl) rfl,
  f_iconst (e_dx DX3_clear_0 1 rfl) ⟨by decide, by decide⟩,
  f_putn (e_dx DX3_clear_0 2 rfl) fX3_18 (fun q hq => by cases hq; rfl) rfl (Or.inl rfl) (by decide),
  ⟨(e_dx DX3_clear_0 3 rfl), rfl⟩, trivial⟩
def lX3_clear : List (Nat × f_Wt) := []
set_option maxRecDepth 20000 in
theorem BX3_clear {sh : Nat → Nat × Nat} {t : Nat} {rm : Nat × Nat × Nat} {cs : Nat × Nat} {R : f_Rt} {a0 : Nat} {M : e_M} (C : f_Hy sh t yX3_clear rm cs 4 (lX3_clear) R) (h : VX3_clear (fun M => R none M) a0 M) : f_E sh t YX3_clear rm cs (f_Q sh t R) 0 [.inr (.inr (.inl (3, 3, a0)))] [] M :=
  f_go (KC := f_kc []) C qX3_clearf f_kc_nil 6 0 h
def WX3_clear (a0 : Nat) (M : e_M) (Q : e_M → Prop) : Prop :=
  VX3_clear Q a0 M
theorem PX3_clear {sh : Nat → Nat × Nat} {t : Nat} {rm : Nat × Nat × Nat} {cs : Nat × Nat} {R : f_Rt} {a0 : Nat} {M : e_M} (C : f_Hy sh t yX3_clear rm cs 4 (lX3_clear) R) (h : WX3_clear a0 M (fun M => R none M)) : f_E sh t YX3_clear rm cs (f_Q sh t R) 0 [.inr (.inr (.inl (3, 3, a0)))] [] M :=
  BX3_clear C h
def wX3_clear : f_Wt := f_wm [(3, 3, 3)] (fun ar M R => WX3_clear (f_va (f_nth ar 0)) M (fun M => R none M))
theorem TX3_clear {sh : Nat → Nat × Nat} {t : Nat} : f_Mt sh t YX3_clear 4 (wX3_clear) :=
  f_Mt_of (k := 0) (Nat.le_of_ble_eq_true rfl) rfl rfl (fun ar M R rm cs h1 h2 h3 hX h => PX3_clear ⟨Nat.le_of_ble_eq_true rfl, h1, h2, h3, trivial, hX⟩ h)
def VX3_add (Q : e_M → Prop) (a0 : Nat) (x1 : Int) (x2 : Int) (M : e_M) : Prop :=
  ((40 ≤ (M a0 2) → (Q M)) ∧ ((M a0 2) < 40 → ((0 ≤ (M a0 2) ∧ (M a0 2) < 40) ∧ (∀ M1 : e_M, M1 = e_up M (a0 + 1) ((M a0 2).toNat) x1 → ((0 ≤ (M1 a0 2) ∧ (M1 a0 2) < 40) ∧ (∀ M2 : e_M, M2 = e_up M1 (a0 + 2) ((M1 a0 2).toNat) x2 → (∀ M3 : e_M, M3 = e_up M2 a0 2 (e_w32 ((M2 a0 2) + 1)) → (Q M3))))))))
def yX3_add (i : Nat) : e_Y := x_get YX3_add [] i
def pX3_addf : List x_I := [(0, 4, 1, 0, 0, 0, []), (1, 25, 3, 2, 0, 0, []), (4, 0, 2, 0, 0, 40, []), (6, 18, 39, 3, 23, 0, []), (9, 4, 1, 0, 0, 0, []), (10, 25, 3, 0, 4, 0, [(0, 20, 40), (0, 1, 1)]), (13, 4, 1, 0, 0, 0, []), (14, 25, 3, 2, 0, 0, []), (17, 2, 1, 1, 0, 0, []), (18, 28, 0, 0, 0, 0, []), (19, 4, 1, 0, 0, 0, []), (20, 25, 3, 1, 4, 0, [(0, 20, 40), (0, 1, 2)]), (23, 4, 1, 0, 0, 0, []), (24, 25, 3, 2, 0, 0, []), (27, 2, 1, 2, 0, 0, []), (28, 28, 0, 0, 0, 0, []), (29, 4, 1, 0, 0, 0, []), (30, 20, 0, 0, 0, 0, []), (31, 25, 3, 2, 0, 0, []), (34, 0, 1, 0, 0, 1, []), (35, 9, 0, 0, 0, 0, []), (36, 26, 3, 2, 0, 0, []), (39, 44, 0, 0, 0, 0, [])]
set_option maxRecDepth 20000 in
theorem qX3_addf : f_all yX3_add YX3_add pX3_addf :=
  ⟨f_aload_n (n := 0) (e_dx DX3_add_0 0 rfl) rfl,
  f_getf (e_dx DX3_add_0 1 rfl) fX3_18 rfl (by decide) (by decide) (by decide),
  f_bipush (e_dx DX3_add_0 2 rfl) ⟨by decide, by decide⟩,
  f_icmp_ge (e_dx DX3_add_0 3 rfl) rfl,
  f_aload_n (n := 0) (e_dx DX3_add_0 4 rfl) rfl,
  f_getA (e_dx DX3_add_0 5 rfl) fX3_9 rfl (by decide) (Nat.le_of_ble_eq_true rfl) rfl (by decide),
  f_aload_n (n := 0) (e_dx DX3_add_0 6 rfl) rfl,
  f_getf (e_dx DX3_add_0 7 rfl) fX3_18 rfl (by decide) (by decide) (by decide),
  f_iload_n (n := 1) (e_dx DX3_add_0 8 rfl) rfl,
  f_iastore (e_dx DX3_add_0 9 rfl),
  f_aload_n (n := 0) (e_dx DX3_add_0 10 rfl) rfl,
  f_getA (e_dx DX3_add_0 11 rfl) fX3_15 rfl (by decide) (Nat.le_of_ble_eq_true rfl) rfl (by decide),
  f_aload_n (n := 0) (e_dx DX3_add_0 12 rfl) rfl,
  f_getf (e_dx DX3_add_0 13 rfl) fX3_18 rfl (by decide) (by decide) (by decide),
  f_iload_n (n := 2) (e_dx DX3_add_0 14 rfl) rfl,
  f_iastore (e_dx DX3_add_0 15 rfl),
  f_aload_n (n := 0) (e_dx DX3_add_0 16 rfl) rfl,
  f_g20 (e_dx DX3_add_0 17 rfl),
  f_getf (e_dx DX3_add_0 18 rfl) fX3_18 rfl (by decide) (by decide) (by decide),
  f_iconst (e_dx DX3_add_0 19 rfl) ⟨by decide, by decide⟩,
  f_iadd (e_dx DX3_add_0 20 rfl),
  f_putn (e_dx DX3_add_0 21 rfl) fX3_18 (fun q hq => by cases hq; rfl) rfl (Or.inl rfl) (by decide),
  ⟨(e_dx DX3_add_0 22 rfl), rfl⟩, trivial⟩
def lX3_add : List (Nat × f_Wt) := []
set_option maxRecDepth 20000 in
theorem BX3_add {sh : Nat → Nat × Nat} {t : Nat} {rm : Nat × Nat × Nat} {cs : Nat × Nat} {R : f_Rt} {a0 : Nat} {x1 : Int} {x2 : Int} {M : e_M} (C : f_Hy sh t yX3_add rm cs 4 (lX3_add) R) (h : VX3_add (fun M => R none M) a0 x1 x2 M) : f_E sh t YX3_add rm cs (f_Q sh t R) 0 [.inr (.inr (.inl (3, 3, a0))), .inl x1, .inl x2] [] M :=
  f_go (KC := f_kc []) C qX3_addf f_kc_nil 25 0 h
def WX3_add (a0 : Nat) (x1 : Int) (x2 : Int) (M : e_M) (Q : e_M → Prop) : Prop :=
  VX3_add Q a0 x1 x2 M
theorem PX3_add {sh : Nat → Nat × Nat} {t : Nat} {rm : Nat × Nat × Nat} {cs : Nat × Nat} {R : f_Rt} {a0 : Nat} {x1 : Int} {x2 : Int} {M : e_M} (C : f_Hy sh t yX3_add rm cs 4 (lX3_add) R) (h : WX3_add a0 x1 x2 M (fun M => R none M)) : f_E sh t YX3_add rm cs (f_Q sh t R) 0 [.inr (.inr (.inl (3, 3, a0))), .inl x1, .inl x2] [] M :=
  BX3_add C h
def wX3_add : f_Wt := f_wm [(3, 3, 3), (1, 0, 0), (1, 0, 0)] (fun ar M R => WX3_add (f_va (f_nth ar 0)) (f_vi (f_nth ar 1)) (f_vi (f_nth ar 2)) M (fun M => R none M))
theorem TX3_add {sh : Nat → Nat × Nat} {t : Nat} : f_Mt sh t YX3_add 4 (wX3_add) :=
  f_Mt_of (k := 0) (Nat.le_of_ble_eq_true rfl) rfl rfl (fun ar M R rm cs h1 h2 h3 hX h => PX3_add ⟨Nat.le_of_ble_eq_true rfl, h1, h2, h3, trivial, hX⟩ h)
def VX5_close_4 (c_X3_clear : Nat → e_M → (e_M → Prop) → Prop) (c_X11_turn : Int → Int → Int → Int → Int → Int → e_M → (Int → Prop) → Prop) (c_X3_add : Nat → Int → Int → e_M → (e_M → Prop) → Prop) (k71 : Nat → Int → Int → e_M → Prop) (k57 : Nat → Int → e_M → Prop) (k59 : Nat → Int → Int → e_M → Prop) (Q : Int → e_M → Prop) (a1 : Nat) (x2 : Int) (x3 : Int) (M : e_M) : Prop :=
  (((M 4426 5) ≤ x3 → (c_X3_clear a1 M (fun M1 => (k71 a1 x2 0 M1)))) ∧ (x3 < (M 4426 5) → ((0 ≤ x3 ∧ x3 < 160) ∧ ((0 ≤ x2 ∧ x2 < 160) ∧ (((M 4437 (x3.toNat)) < (M 4437 (x2.toNat)) → (k57 a1 x3 M)) ∧ ((M 4437 (x2.toNat)) ≤ (M 4437 (x3.toNat)) → ((0 ≤ x3 ∧ x3 < 160) ∧ ((0 ≤ x2 ∧ x2 < 160) ∧ ((¬ (M 4437 (x3.toNat)) = (M 4437 (x2.toNat)) → (k59 a1 x2 x3 M)) ∧ ((M 4437 (x3.toNat)) = (M 4437 (x2.toNat)) → ((0 ≤ x3 ∧ x3 < 160) ∧ ((0 ≤ x2 ∧ x2 < 160) ∧ (((M 4436 (x2.toNat)) ≤ (M 4436 (x3.toNat)) → (k59 a1 x2 x3 M)) ∧ ((M 4436 (x3.toNat)) < (M 4436 (x2.toNat)) → (k57 a1 x3 M)))))))))))))))
def VX5_close_57 (c_X3_clear : Nat → e_M → (e_M → Prop) → Prop) (c_X11_turn : Int → Int → Int → Int → Int → Int → e_M → (Int → Prop) → Prop) (c_X3_add : Nat → Int → Int → e_M → (e_M → Prop) → Prop) (k59 : Nat → Int → Int → e_M → Prop) (Q : Int → e_M → Prop) (a1 : Nat) (x3 : Int) (M : e_M) : Prop :=
  (k59 a1 x3 x3 M)
def VX5_close_59 (c_X3_clear : Nat → e_M → (e_M → Prop) → Prop) (c_X11_turn : Int → Int → Int → Int → Int → Int → e_M → (Int → Prop) → Prop) (c_X3_add : Nat → Int → Int → e_M → (e_M → Prop) → Prop) (k4 : Nat → Int → Int → e_M → Prop) (Q : Int → e_M → Prop) (a1 : Nat) (x2 : Int) (x3 : Int) (M : e_M) : Prop :=
  (k4 a1 x2 (e_w32 (x3 + 1)) M)
def VX5_close_71 (c_X3_clear : Nat → e_M → (e_M → Prop) → Prop) (c_X11_turn : Int → Int → Int → Int → Int → Int → e_M → (Int → Prop) → Prop) (c_X3_add : Nat → Int → Int → e_M → (e_M → Prop) → Prop) (k103 : Nat → Int → Int → Int → e_M → Prop) (Q : Int → e_M → Prop) (a1 : Nat) (x2 : Int) (x3 : Int) (M : e_M) : Prop :=
  (((M 4426 5) ≤ x3 → (((M a1 2) ≤ 2 → (Q 0 M)) ∧ (2 < (M a1 2) → (Q 1 M)))) ∧ (x3 < (M 4426 5) → (((M 4426 5) ≤ (e_w32 (x2 + x3)) → (k103 a1 x2 x3 (e_w32 ((e_w32 (x2 + x3)) - (M 4426 5))) M)) ∧ ((e_w32 (x2 + x3)) < (M 4426 5) → (k103 a1 x2 x3 (e_w32 (x2 + x3)) M)))))
def VX5_close_103 (c_X3_clear : Nat → e_M → (e_M → Prop) → Prop) (c_X11_turn : Int → Int → Int → Int → Int → Int → e_M → (Int → Prop) → Prop) (c_X3_add : Nat → Int → Int → e_M → (e_M → Prop) → Prop) (k123 : Nat → Int → Int → Int → Int → e_M → Prop) (Q : Int → e_M → Prop) (a1 : Nat) (x2 : Int) (x3 : Int) (xs0 : Int) (M : e_M) : Prop :=
  ((xs0 ≤ 0 → (k123 a1 x2 x3 xs0 (e_w32 ((M 4426 5) - 1)) M)) ∧ (0 < xs0 → (k123 a1 x2 x3 xs0 (e_w32 (xs0 - 1)) M)))
def VX5_close_123 (c_X3_clear : Nat → e_M → (e_M → Prop) → Prop) (c_X11_turn : Int → Int → Int → Int → Int → Int → e_M → (Int → Prop) → Prop) (c_X3_add : Nat → Int → Int → e_M → (e_M → Prop) → Prop) (k144 : Nat → Int → Int → Int → Int → Int → e_M → Prop) (Q : Int → e_M → Prop) (a1 : Nat) (x2 : Int) (x3 : Int) (x4 : Int) (xs0 : Int) (M : e_M) : Prop :=
  (((M 4426 5) ≤ (e_w32 (x4 + 1)) → (k144 a1 x2 x3 x4 xs0 0 M)) ∧ ((e_w32 (x4 + 1)) < (M 4426 5) → (k144 a1 x2 x3 x4 xs0 (e_w32 (x4 + 1)) M)))
def VX5_close_144 (c_X3_clear : Nat → e_M → (e_M → Prop) → Prop) (c_X11_turn : Int → Int → Int → Int → Int → Int → e_M → (Int → Prop) → Prop) (c_X3_add : Nat → Int → Int → e_M → (e_M → Prop) → Prop) (k225 : Nat → Int → Int → e_M → Prop) (Q : Int → e_M → Prop) (a1 : Nat) (x2 : Int) (x3 : Int) (x4 : Int) (x5 : Int) (xs0 : Int) (M : e_M) : Prop :=
  ((0 ≤ x5 ∧ x5 < 160) ∧ ((0 ≤ x5 ∧ x5 < 160) ∧ ((0 ≤ x4 ∧ x4 < 160) ∧ ((0 ≤ x4 ∧ x4 < 160) ∧ ((0 ≤ xs0 ∧ xs0 < 160) ∧ ((0 ≤ xs0 ∧ xs0 < 160) ∧ (c_X11_turn (M 4436 (x5.toNat)) (M 4437 (x5.toNat)) (M 4436 (x4.toNat)) (M 4437 (x4.toNat)) (M 4436 (xs0.toNat)) (M 4437 (xs0.toNat)) M (fun r1 => ((r1 = 0 → (k225 a1 x2 x3 M)) ∧ (¬ r1 = 0 → (((M a1 2) < 40 → ((0 ≤ x4 ∧ x4 < 160) ∧ ((0 ≤ x4 ∧ x4 < 160) ∧ (c_X3_add a1 (M 4436 (x4.toNat)) (M 4437 (x4.toNat)) M (fun M2 => (k225 a1 x2 x3 M2)))))) ∧ (40 ≤ (M a1 2) → (Q 0 M)))))))))))))
def VX5_close_225 (c_X3_clear : Nat → e_M → (e_M → Prop) → Prop) (c_X11_turn : Int → Int → Int → Int → Int → Int → e_M → (Int → Prop) → Prop) (c_X3_add : Nat → Int → Int → e_M → (e_M → Prop) → Prop) (k71 : Nat → Int → Int → e_M → Prop) (Q : Int → e_M → Prop) (a1 : Nat) (x2 : Int) (x3 : Int) (M : e_M) : Prop :=
  (k71 a1 x2 (e_w32 (x3 + 1)) M)
def VX5_close (c_X3_clear : Nat → e_M → (e_M → Prop) → Prop) (c_X11_turn : Int → Int → Int → Int → Int → Int → e_M → (Int → Prop) → Prop) (c_X3_add : Nat → Int → Int → e_M → (e_M → Prop) → Prop) (k4 : Nat → Int → Int → e_M → Prop) (Q : Int → e_M → Prop) (a1 : Nat) (M : e_M) : Prop :=
  (k4 a1 0 1 M)
def yX5_close (i : Nat) : e_Y := x_get YX5_close [YX3_clear, YX11_turn, YX3_add] i
def pX5_closef : List x_I := [(0, 0, 1, 0, 0, 0, []), (1, 5, 1, 2, 0, 0, []), (2, 0, 1, 0, 0, 1, []), (3, 5, 1, 3, 0, 0, []), (4, 49, 0, 0, 0, 0, []), (4, 2, 1, 3, 0, 0, []), (5, 4, 1, 0, 0, 0, []), (6, 25, 5, 5, 0, 0, []), (9, 18, 65, 3, 43, 0, []), (12, 4, 1, 0, 0, 0, []), (13, 25, 5, 4, 4, 0, [(0, 20, 160), (0, 1, 11)]), (16, 2, 1, 3, 0, 0, []), (17, 27, 0, 0, 0, 0, []), (18, 4, 1, 0, 0, 0, []), (19, 25, 5, 4, 4, 0, [(0, 20, 160), (0, 1, 11)]), (22, 2, 1, 2, 0, 0, []), (23, 27, 0, 0, 0, 0, []), (24, 18, 57, 2, 37, 0, []), (27, 4, 1, 0, 0, 0, []), (28, 25, 5, 4, 4, 0, [(0, 20, 160), (0, 1, 11)]), (31, 2, 1, 3, 0, 0, []), (32, 27, 0, 0, 0, 0, []), (33, 4, 1, 0, 0, 0, []), (34, 25, 5, 4, 4, 0, [(0, 20, 160), (0, 1, 11)]), (37, 2, 1, 2, 0, 0, []), (38, 27, 0, 0, 0, 0, []), (39, 18, 59, 1, 40, 0, []), (42, 4, 1, 0, 0, 0, []), (43, 25, 5, 3, 4, 0, [(0, 20, 160), (0, 1, 10)]), (46, 2, 1, 3, 0, 0, []), (47, 27, 0, 0, 0, 0, []), (48, 4, 1, 0, 0, 0, []), (49, 25, 5, 3, 4, 0, [(0, 20, 160), (0, 1, 10)]), (52, 2, 1, 2, 0, 0, []), (53, 27, 0, 0, 0, 0, []), (54, 18, 59, 3, 40, 0, []), (57, 49, 0, 0, 0, 0, []), (57, 2, 1, 3, 0, 0, []), (58, 5, 1, 2, 0, 0, []), (59, 49, 0, 0, 0, 0, []), (59, 8, 0, 3, 0, 1, []), (62, 19, 4, 0, 5, 0, []), (65, 4, 1, 1, 0, 0, []), (66, 40, 0, 1, 5, 0, []), (69, 0, 1, 0, 0, 0, []), (70, 5, 1, 3, 0, 0, []), (71, 49, 0, 0, 0, 0, []), (71, 2, 1, 3, 0, 0, []), (72, 4, 1, 0, 0, 0, []), (73, 25, 5, 5, 0, 0, []), (76, 18, 231, 3, 141, 0, []), (79, 2, 1, 2, 0, 0, []), (80, 2, 1, 3, 0, 0, []), (81, 9, 0, 0, 0, 0, []), (82, 4, 1, 0, 0, 0, []), (83, 25, 5, 5, 0, 0, []), (86, 18, 95, 3, 62, 0, []), (89, 2, 1, 2, 0, 0, []), (90, 2, 1, 3, 0, 0, []), (91, 9, 0, 0, 0, 0, []), (92, 19, 103, 0, 68, 0, []), (95, 2, 1, 2, 0, 0, []), (96, 2, 1, 3, 0, 0, []), (97, 9, 0, 0, 0, 0, []), (98, 4, 1, 0, 0, 0, []), (99, 25, 5, 5, 0, 0, []), (102, 9, 0, 1, 0, 0, []), (103, 49, 0, 0, 0, 0, []), (103, 5, 2, 4, 0, 0, []), (105, 2, 2, 4, 0, 0, []), (107, 17, 117, 5, 76, 0, []), (110, 2, 2, 4, 0, 0, []), (112, 0, 1, 0, 0, 1, []), (113, 9, 0, 1, 0, 0, []), (114, 19, 123, 0, 80, 0, []), (117, 4, 1, 0, 0, 0, []), (118, 25, 5, 5, 0, 0, []), (121, 0, 1, 0, 0, 1, []), (122, 9, 0, 1, 0, 0, []), (123, 49, 0, 0, 0, 0, []), (123, 5, 2, 5, 0, 0, []), (125, 2, 2, 4, 0, 0, []), (127, 0, 1, 0, 0, 1, []), (128, 9, 0, 0, 0, 0, []), (129, 4, 1, 0, 0, 0, []), (130, 25, 5, 5, 0, 0, []), (133, 18, 143, 3, 92, 0, []), (136, 2, 2, 4, 0, 0, []), (138, 0, 1, 0, 0, 1, []), (139, 9, 0, 0, 0, 0, []), (140, 19, 144, 0, 93, 0, []), (143, 0, 1, 0, 0, 0, []), (144, 49, 0, 0, 0, 0, []), (144, 5, 2, 6, 0, 0, []), (146, 4, 1, 0, 0, 0, []), (147, 25, 5, 3, 4, 0, [(0, 20, 160), (0, 1, 10)]), (150, 2, 2, 5, 0, 0, []), (152, 27, 0, 0, 0, 0, []), (153, 4, 1, 0, 0, 0, []), (154, 25, 5, 4, 4, 0, [(0, 20, 160), (0, 1, 11)]), (157, 2, 2, 5, 0, 0, []), (159, 27, 0, 0, 0, 0, []), (160, 4, 1, 0, 0, 0, []), (161, 25, 5, 3, 4, 0, [(0, 20, 160), (0, 1, 10)]), (164, 2, 2, 4, 0, 0, []), (166, 27, 0, 0, 0, 0, []), (167, 4, 1, 0, 0, 0, []), (168, 25, 5, 4, 4, 0, [(0, 20, 160), (0, 1, 11)]), (171, 2, 2, 4, 0, 0, []), (173, 27, 0, 0, 0, 0, []), (174, 4, 1, 0, 0, 0, []), (175, 25, 5, 3, 4, 0, [(0, 20, 160), (0, 1, 10)]), (178, 2, 2, 6, 0, 0, []), (180, 27, 0, 0, 0, 0, []), (181, 4, 1, 0, 0, 0, []), (182, 25, 5, 4, 4, 0, [(0, 20, 160), (0, 1, 11)]), (185, 2, 2, 6, 0, 0, []), (187, 27, 0, 0, 0, 0, []), (188, 40, 1, 6, 0, 0, []), (191, 1, 1, 0, 0, 0, []), (192, 32, 225, 0, 138, 0, []), (196, 4, 1, 1, 0, 0, []), (197, 25, 3, 2, 0, 0, []), (200, 0, 2, 0, 0, 40, []), (202, 18, 207, 2, 128, 0, []), (205, 0, 1, 0, 0, 0, []), (206, 48, 0, 0, 0, 0, []), (207, 4, 1, 1, 0, 0, []), (208, 4, 1, 0, 0, 0, []), (209, 25, 5, 3, 4, 0, [(0, 20, 160), (0, 1, 10)]), (212, 2, 2, 4, 0, 0, []), (214, 27, 0, 0, 0, 0, []), (215, 4, 1, 0, 0, 0, []), (216, 25, 5, 4, 4, 0, [(0, 20, 160), (0, 1, 11)]), (219, 2, 2, 4, 0, 0, []), (221, 27, 0, 0, 0, 0, []), (222, 40, 2, 3, 5, 0, []), (225, 49, 0, 0, 0, 0, []), (225, 8, 0, 3, 0, 1, []), (228, 19, 71, 0, 47, 0, []), (231, 4, 1, 1, 0, 0, []), (232, 25, 3, 2, 0, 0, []), (235, 0, 1, 0, 0, 2, []), (236, 18, 243, 5, 147, 0, []), (239, 0, 1, 0, 0, 1, []), (240, 19, 244, 0, 148, 0, []), (243, 0, 1, 0, 0, 0, []), (244, 48, 0, 0, 0, 0, [])]
set_option maxRecDepth 20000 in
theorem qX5_closef : f_all yX5_close YX5_close pX5_closef :=
  ⟨f_iconst (e_dx DX5_close_0 0 rfl) ⟨by decide, by decide⟩,
  f_istore_n (n := 2) (e_dx DX5_close_0 1 rfl) rfl (by decide),
  f_iconst (e_dx DX5_close_0 2 rfl) ⟨by decide, by decide⟩,
  f_istore_n (n := 3) (e_dx DX5_close_0 3 rfl) rfl (by decide),
  trivial,
  f_iload_n (n := 3) (e_dx DX5_close_0 4 rfl) rfl,
  f_aload_n (n := 0) (e_dx DX5_close_0 5 rfl) rfl,
  f_getf (e_dx DX5_close_0 6 rfl) fX5_31 rfl (by decide) (by decide) (by decide),
  f_icmp_ge (e_dx DX5_close_0 7 rfl) rfl,
  f_aload_n (n := 0) (e_dx DX5_close_0 8 rfl) rfl,
  f_getA (e_dx DX5_close_0 9 rfl) fX5_28 rfl (by decide) (Nat.le_of_ble_eq_true rfl) rfl (by decide),
  f_iload_n (n := 3) (e_dx DX5_close_0 10 rfl) rfl,
  f_iaload (e_dx DX5_close_0 11 rfl),
  f_aload_n (n := 0) (e_dx DX5_close_0 12 rfl) rfl,
  f_getA (e_dx DX5_close_0 13 rfl) fX5_28 rfl (by decide) (Nat.le_of_ble_eq_true rfl) rfl (by decide),
  f_iload_n (n := 2) (e_dx DX5_close_0 14 rfl) rfl,
  f_iaload (e_dx DX5_close_0 15 rfl),
  f_icmp_lt (e_dx DX5_close_0 16 rfl) rfl,
  f_aload_n (n := 0) (e_dx DX5_close_0 17 rfl) rfl,
  f_getA (e_dx DX5_close_0 18 rfl) fX5_28 rfl (by decide) (Nat.le_of_ble_eq_true rfl) rfl (by decide),
  f_iload_n (n := 3) (e_dx DX5_close_0 19 rfl) rfl,
  f_iaload (e_dx DX5_close_0 20 rfl),
  f_aload_n (n := 0) (e_dx DX5_close_0 21 rfl) rfl,
  f_getA (e_dx DX5_close_0 22 rfl) fX5_28 rfl (by decide) (Nat.le_of_ble_eq_true rfl) rfl (by decide),
  f_iload_n (n := 2) (e_dx DX5_close_0 23 rfl) rfl,
  f_iaload (e_dx DX5_close_0 24 rfl),
  f_icmp_ne (e_dx DX5_close_0 25 rfl) rfl,
  f_aload_n (n := 0) (e_dx DX5_close_0 26 rfl) rfl,
  f_getA (e_dx DX5_close_0 27 rfl) fX5_24 rfl (by decide) (Nat.le_of_ble_eq_true rfl) rfl (by decide),
  f_iload_n (n := 3) (e_dx DX5_close_0 28 rfl) rfl,
  f_iaload (e_dx DX5_close_0 29 rfl),
  f_aload_n (n := 0) (e_dx DX5_close_0 30 rfl) rfl,
  f_getA (e_dx DX5_close_0 31 rfl) fX5_24 rfl (by decide) (Nat.le_of_ble_eq_true rfl) rfl (by decide),
  f_iload_n (n := 2) (e_dx DX5_close_0 32 rfl) rfl,
  f_iaload (e_dx DX5_close_0 33 rfl),
  f_icmp_ge (e_dx DX5_close_0 34 rfl) rfl,
  trivial,
  f_iload_n (n := 3) (e_dx DX5_close_0 35 rfl) rfl,
  f_istore_n (n := 2) (e_dx DX5_close_0 36 rfl) rfl (by decide),
  trivial,
  f_g8 (e_dx DX5_close_0 37 rfl) ⟨by decide, by decide⟩,
  f_g19 (e_dx DX5_close_0 38 rfl) rfl,
  f_aload_n (n := 1) (e_dx DX5_close_0 39 rfl) rfl,
  x_callV (e_dx DX5_close_1 0 rfl) mwX3_clear vwX3_clear cX5_119 rfl,
  f_iconst (e_dx DX5_close_1 1 rfl) ⟨by decide, by decide⟩,
  f_istore_n (n := 3) (e_dx DX5_close_1 2 rfl) rfl (by decide),
  trivial,
  f_iload_n (n := 3) (e_dx DX5_close_1 3 rfl) rfl,
  f_aload_n (n := 0) (e_dx DX5_close_1 4 rfl) rfl,
  f_getf (e_dx DX5_close_1 5 rfl) fX5_31 rfl (by decide) (by decide) (by decide),
  f_icmp_ge (e_dx DX5_close_1 6 rfl) rfl,
  f_iload_n (n := 2) (e_dx DX5_close_1 7 rfl) rfl,
  f_iload_n (n := 3) (e_dx DX5_close_1 8 rfl) rfl,
  f_iadd (e_dx DX5_close_1 9 rfl),
  f_aload_n (n := 0) (e_dx DX5_close_1 10 rfl) rfl,
  f_getf (e_dx DX5_close_1 11 rfl) fX5_31 rfl (by decide) (by decide) (by decide),
  f_icmp_ge (e_dx DX5_close_1 12 rfl) rfl,
  f_iload_n (n := 2) (e_dx DX5_close_1 13 rfl) rfl,
  f_iload_n (n := 3) (e_dx DX5_close_1 14 rfl) rfl,
  f_iadd (e_dx DX5_close_1 15 rfl),
  f_g19 (e_dx DX5_close_1 16 rfl) rfl,
  f_iload_n (n := 2) (e_dx DX5_close_1 17 rfl) rfl,
  f_iload_n (n := 3) (e_dx DX5_close_1 18 rfl) rfl,
  f_iadd (e_dx DX5_close_1 19 rfl),
  f_aload_n (n := 0) (e_dx DX5_close_1 20 rfl) rfl,
  f_getf (e_dx DX5_close_1 21 rfl) fX5_31 rfl (by decide) (by decide) (by decide),
  f_isub (e_dx DX5_close_1 22 rfl),
  trivial,
  f_istore (e_dx DX5_close_1 23 rfl) (by decide),
  f_iload (e_dx DX5_close_1 24 rfl),
  f_if_le (e_dx DX5_close_1 25 rfl) rfl,
  f_iload (e_dx DX5_close_1 26 rfl),
  f_iconst (e_dx DX5_close_1 27 rfl) ⟨by decide, by decide⟩,
  f_isub (e_dx DX5_close_1 28 rfl),
  f_g19 (e_dx DX5_close_1 29 rfl) rfl,
  f_aload_n (n := 0) (e_dx DX5_close_1 30 rfl) rfl,
  f_getf (e_dx DX5_close_1 31 rfl) fX5_31 rfl (by decide) (by decide) (by decide),
  f_iconst (e_dx DX5_close_1 32 rfl) ⟨by decide, by decide⟩,
  f_isub (e_dx DX5_close_1 33 rfl),
  trivial,
  f_istore (e_dx DX5_close_1 34 rfl) (by decide),
  f_iload (e_dx DX5_close_1 35 rfl),
  f_iconst (e_dx DX5_close_1 36 rfl) ⟨by decide, by decide⟩,
  f_iadd (e_dx DX5_close_1 37 rfl),
  f_aload_n (n := 0) (e_dx DX5_close_1 38 rfl) rfl,
  f_getf (e_dx DX5_close_1 39 rfl) fX5_31 rfl (by decide) (by decide) (by decide),
  f_icmp_ge (e_dx DX5_close_2 0 rfl) rfl,
  f_iload (e_dx DX5_close_2 1 rfl),
  f_iconst (e_dx DX5_close_2 2 rfl) ⟨by decide, by decide⟩,
  f_iadd (e_dx DX5_close_2 3 rfl),
  f_g19 (e_dx DX5_close_2 4 rfl) rfl,
  f_iconst (e_dx DX5_close_2 5 rfl) ⟨by decide, by decide⟩,
  trivial,
  f_istore (e_dx DX5_close_2 6 rfl) (by decide),
  f_aload_n (n := 0) (e_dx DX5_close_2 7 rfl) rfl,
  f_getA (e_dx DX5_close_2 8 rfl) fX5_24 rfl (by decide) (Nat.le_of_ble_eq_true rfl) rfl (by decide),
  f_iload (e_dx DX5_close_2 9 rfl),
  f_iaload (e_dx DX5_close_2 10 rfl),
  f_aload_n (n := 0) (e_dx DX5_close_2 11 rfl) rfl,
  f_getA (e_dx DX5_close_2 12 rfl) fX5_28 rfl (by decide) (Nat.le_of_ble_eq_true rfl) rfl (by decide),
  f_iload (e_dx DX5_close_2 13 rfl),
  f_iaload (e_dx DX5_close_2 14 rfl),
  f_aload_n (n := 0) (e_dx DX5_close_2 15 rfl) rfl,
  f_getA (e_dx DX5_close_2 16 rfl) fX5_24 rfl (by decide) (Nat.le_of_ble_eq_true rfl) rfl (by decide),
  f_iload (e_dx DX5_close_2 17 rfl),
  f_iaload (e_dx DX5_close_2 18 rfl),
  f_aload_n (n := 0) (e_dx DX5_close_2 19 rfl) rfl,
  f_getA (e_dx DX5_close_2 20 rfl) fX5_28 rfl (by decide) (Nat.le_of_ble_eq_true rfl) rfl (by decide),
  f_iload (e_dx DX5_close_2 21 rfl),
  f_iaload (e_dx DX5_close_2 22 rfl),
  f_aload_n (n := 0) (e_dx DX5_close_2 23 rfl) rfl,
  f_getA (e_dx DX5_close_2 24 rfl) fX5_24 rfl (by decide) (Nat.le_of_ble_eq_true rfl) rfl (by decide),
  f_iload (e_dx DX5_close_2 25 rfl),
  f_iaload (e_dx DX5_close_2 26 rfl),
  f_aload_n (n := 0) (e_dx DX5_close_2 27 rfl) rfl,
  f_getA (e_dx DX5_close_2 28 rfl) fX5_28 rfl (by decide) (Nat.le_of_ble_eq_true rfl) rfl (by decide),
  f_iload (e_dx DX5_close_2 29 rfl),
  f_iaload (e_dx DX5_close_2 30 rfl),
  x_callSN (e_dx DX5_close_2 31 rfl) mwX11_turn cX5_102 swX11_turn rfl,
  f_lconst (n := 0) (e_dx DX5_close_2 32 rfl) rfl,
  f_lif_eq (e_dx DX5_close_2 33 rfl) (e_dx DX5_close_2 34 rfl) rfl,
  f_aload_n (n := 1) (e_dx DX5_close_2 35 rfl) rfl,
  f_getf (e_dx DX5_close_2 36 rfl) fX5_89 rfl (by decide) (by decide) (by decide),
  f_bipush (e_dx DX5_close_2 37 rfl) ⟨by decide, by decide⟩,
  f_icmp_lt (e_dx DX5_close_2 38 rfl) rfl,
  f_iconst (e_dx DX5_close_2 39 rfl) ⟨by decide, by decide⟩,
  ⟨(e_dx DX5_close_3 0 rfl), rfl⟩,
  f_aload_n (n := 1) (e_dx DX5_close_3 1 rfl) rfl,
  f_aload_n (n := 0) (e_dx DX5_close_3 2 rfl) rfl,
  f_getA (e_dx DX5_close_3 3 rfl) fX5_24 rfl (by decide) (Nat.le_of_ble_eq_true rfl) rfl (by decide),
  f_iload (e_dx DX5_close_3 4 rfl),
  f_iaload (e_dx DX5_close_3 5 rfl),
  f_aload_n (n := 0) (e_dx DX5_close_3 6 rfl) rfl,
  f_getA (e_dx DX5_close_3 7 rfl) fX5_28 rfl (by decide) (Nat.le_of_ble_eq_true rfl) rfl (by decide),
  f_iload (e_dx DX5_close_3 8 rfl),
  f_iaload (e_dx DX5_close_3 9 rfl),
  x_callV (e_dx DX5_close_3 10 rfl) mwX3_add vwX3_add cX5_122 rfl,
  trivial,
  f_g8 (e_dx DX5_close_3 11 rfl) ⟨by decide, by decide⟩,
  f_g19 (e_dx DX5_close_3 12 rfl) rfl,
  f_aload_n (n := 1) (e_dx DX5_close_3 13 rfl) rfl,
  f_getf (e_dx DX5_close_3 14 rfl) fX5_89 rfl (by decide) (by decide) (by decide),
  f_iconst (e_dx DX5_close_3 15 rfl) ⟨by decide, by decide⟩,
  f_icmp_le (e_dx DX5_close_3 16 rfl) rfl,
  f_iconst (e_dx DX5_close_3 17 rfl) ⟨by decide, by decide⟩,
  f_g19 (e_dx DX5_close_3 18 rfl) rfl,
  f_iconst (e_dx DX5_close_3 19 rfl) ⟨by decide, by decide⟩,
  ⟨(e_dx DX5_close_3 20 rfl), rfl⟩, trivial⟩
def lX5_close (c_X3_clear : Nat → e_M → (e_M → Prop) → Prop) (c_X11_turn : Int → Int → Int → Int → Int → Int → e_M → (Int → Prop) → Prop) (c_X3_add : Nat → Int → Int → e_M → (e_M → Prop) → Prop) : List (Nat × f_Wt) := [(0, f_wm [(3, 3, 3)] (fun ar M R => c_X3_clear (f_va (f_nth ar 0)) M (fun M => R none M))), (1, f_wm [(1, 0, 0), (1, 0, 0), (1, 0, 0), (1, 0, 0), (1, 0, 0), (1, 0, 0)] (fun ar M R => c_X11_turn (f_vi (f_nth ar 0)) (f_vi (f_nth ar 1)) (f_vi (f_nth ar 2)) (f_vi (f_nth ar 3)) (f_vi (f_nth ar 4)) (f_vi (f_nth ar 5)) M (fun r => R (some (.inr (.inl r))) M))), (2, f_wm [(3, 3, 3), (1, 0, 0), (1, 0, 0)] (fun ar M R => c_X3_add (f_va (f_nth ar 0)) (f_vi (f_nth ar 1)) (f_vi (f_nth ar 2)) M (fun M => R none M)))]
set_option maxRecDepth 20000 in
theorem BX5_close_4 {sh : Nat → Nat × Nat} {t : Nat} {rm : Nat × Nat × Nat} {cs : Nat × Nat} {R : f_Rt} {c_X3_clear : Nat → e_M → (e_M → Prop) → Prop} {c_X11_turn : Int → Int → Int → Int → Int → Int → e_M → (Int → Prop) → Prop} {c_X3_add : Nat → Int → Int → e_M → (e_M → Prop) → Prop} {k71 : Nat → Int → Int → e_M → Prop} {k57 : Nat → Int → e_M → Prop} {k59 : Nat → Int → Int → e_M → Prop} {a1 : Nat} {x2 : Int} {x3 : Int} {M : e_M} (C : f_Hy sh t yX5_close rm cs 5 (lX5_close c_X3_clear c_X11_turn c_X3_add) R) (h71 : ∀ (a1 : Nat) (x2 : Int) (x3 : Int) (M : e_M), k71 a1 x2 x3 M → f_E sh t YX5_close rm cs (f_Q sh t R) 71 [.inr (.inr (.inl (5, 12, 4426))), .inr (.inr (.inl (3, 3, a1))), .inl x2, .inl x3, .inr (.inr (.inr ())), .inr (.inr (.inr ())), .inr (.inr (.inr ()))] [] M) (h57 : ∀ (a1 : Nat) (x3 : Int) (M : e_M), k57 a1 x3 M → f_E sh t YX5_close rm cs (f_Q sh t R) 57 [.inr (.inr (.inl (5, 12, 4426))), .inr (.inr (.inl (3, 3, a1))), .inr (.inr (.inr ())), .inl x3, .inr (.inr (.inr ())), .inr (.inr (.inr ())), .inr (.inr (.inr ()))] [] M) (h59 : ∀ (a1 : Nat) (x2 : Int) (x3 : Int) (M : e_M), k59 a1 x2 x3 M → f_E sh t YX5_close rm cs (f_Q sh t R) 59 [.inr (.inr (.inl (5, 12, 4426))), .inr (.inr (.inl (3, 3, a1))), .inl x2, .inl x3, .inr (.inr (.inr ())), .inr (.inr (.inr ())), .inr (.inr (.inr ()))] [] M) (h : VX5_close_4 c_X3_clear c_X11_turn c_X3_add k71 k57 k59 (fun r M => R (some (.inl r)) M) a1 x2 x3 M) : f_E sh t YX5_close rm cs (f_Q sh t R) 4 [.inr (.inr (.inl (5, 12, 4426))), .inr (.inr (.inl (3, 3, a1))), .inl x2, .inl x3, .inr (.inr (.inr ())), .inr (.inr (.inr ())), .inr (.inr (.inr ()))] [] M :=
  f_go (KC := f_kc [(71, f_pl [(4436, 5, 12), (3, 3, 3), (1, 0, 0), (1, 0, 0), (0, 0, 0), (0, 0, 0), (0, 0, 0)] [] (fun ls st M => k71 (f_va (f_nth ls 1)) (f_vi (f_nth ls 2)) (f_vi (f_nth ls 3)) M)), (57, f_pl [(4436, 5, 12), (3, 3, 3), (0, 0, 0), (1, 0, 0), (0, 0, 0), (0, 0, 0), (0, 0, 0)] [] (fun ls st M => k57 (f_va (f_nth ls 1)) (f_vi (f_nth ls 3)) M)), (59, f_pl [(4436, 5, 12), (3, 3, 3), (1, 0, 0), (1, 0, 0), (0, 0, 0), (0, 0, 0), (0, 0, 0)] [] (fun ls st M => k59 (f_va (f_nth ls 1)) (f_vi (f_nth ls 2)) (f_vi (f_nth ls 3)) M))]) C qX5_closef (f_kc_cons (f_pl_ok rfl (fun ls st M h => h71 _ _ _ M h)) (f_kc_cons (f_pl_ok rfl (fun ls st M h => h57 _ _ M h)) (f_kc_cons (f_pl_ok rfl (fun ls st M h => h59 _ _ _ M h)) f_kc_nil))) 150 5 h
set_option maxRecDepth 20000 in
theorem BX5_close_57 {sh : Nat → Nat × Nat} {t : Nat} {rm : Nat × Nat × Nat} {cs : Nat × Nat} {R : f_Rt} {c_X3_clear : Nat → e_M → (e_M → Prop) → Prop} {c_X11_turn : Int → Int → Int → Int → Int → Int → e_M → (Int → Prop) → Prop} {c_X3_add : Nat → Int → Int → e_M → (e_M → Prop) → Prop} {k59 : Nat → Int → Int → e_M → Prop} {a1 : Nat} {x3 : Int} {M : e_M} (C : f_Hy sh t yX5_close rm cs 5 (lX5_close c_X3_clear c_X11_turn c_X3_add) R) (h59 : ∀ (a1 : Nat) (x2 : Int) (x3 : Int) (M : e_M), k59 a1 x2 x3 M → f_E sh t YX5_close rm cs (f_Q sh t R) 59 [.inr (.inr (.inl (5, 12, 4426))), .inr (.inr (.inl (3, 3, a1))), .inl x2, .inl x3, .inr (.inr (.inr ())), .inr (.inr (.inr ())), .inr (.inr (.inr ()))] [] M) (h : VX5_close_57 c_X3_clear c_X11_turn c_X3_add k59 (fun r M => R (some (.inl r)) M) a1 x3 M) : f_E sh t YX5_close rm cs (f_Q sh t R) 57 [.inr (.inr (.inl (5, 12, 4426))), .inr (.inr (.inl (3, 3, a1))), .inr (.inr (.inr ())), .inl x3, .inr (.inr (.inr ())), .inr (.inr (.inr ())), .inr (.inr (.inr ()))] [] M :=
  f_go (KC := f_kc [(59, f_pl [(4436, 5, 12), (3, 3, 3), (1, 0, 0), (1, 0, 0), (0, 0, 0), (0, 0, 0), (0, 0, 0)] [] (fun ls st M => k59 (f_va (f_nth ls 1)) (f_vi (f_nth ls 2)) (f_vi (f_nth ls 3)) M))]) C qX5_closef (f_kc_cons (f_pl_ok rfl (fun ls st M h => h59 _ _ _ M h)) f_kc_nil) 150 37 h
set_option maxRecDepth 20000 in
theorem BX5_close_59 {sh : Nat → Nat × Nat} {t : Nat} {rm : Nat × Nat × Nat} {cs : Nat × Nat} {R : f_Rt} {c_X3_clear : Nat → e_M → (e_M → Prop) → Prop} {c_X11_turn : Int → Int → Int → Int → Int → Int → e_M → (Int → Prop) → Prop} {c_X3_add : Nat → Int → Int → e_M → (e_M → Prop) → Prop} {k4 : Nat → Int → Int → e_M → Prop} {a1 : Nat} {x2 : Int} {x3 : Int} {M : e_M} (C : f_Hy sh t yX5_close rm cs 5 (lX5_close c_X3_clear c_X11_turn c_X3_add) R) (h4 : ∀ (a1 : Nat) (x2 : Int) (x3 : Int) (M : e_M), k4 a1 x2 x3 M → f_E sh t YX5_close rm cs (f_Q sh t R) 4 [.inr (.inr (.inl (5, 12, 4426))), .inr (.inr (.inl (3, 3, a1))), .inl x2, .inl x3, .inr (.inr (.inr ())), .inr (.inr (.inr ())), .inr (.inr (.inr ()))] [] M) (h : VX5_close_59 c_X3_clear c_X11_turn c_X3_add k4 (fun r M => R (some (.inl r)) M) a1 x2 x3 M) : f_E sh t YX5_close rm cs (f_Q sh t R) 59 [.inr (.inr (.inl (5, 12, 4426))), .inr (.inr (.inl (3, 3, a1))), .inl x2, .inl x3, .inr (.inr (.inr ())), .inr (.inr (.inr ())), .inr (.inr (.inr ()))] [] M :=
  f_go (KC := f_kc [(4, f_pl [(4436, 5, 12), (3, 3, 3), (1, 0, 0), (1, 0, 0), (0, 0, 0), (0, 0, 0), (0, 0, 0)] [] (fun ls st M => k4 (f_va (f_nth ls 1)) (f_vi (f_nth ls 2)) (f_vi (f_nth ls 3)) M))]) C qX5_closef (f_kc_cons (f_pl_ok rfl (fun ls st M h => h4 _ _ _ M h)) f_kc_nil) 150 40 h
set_option maxRecDepth 20000 in
theorem BX5_close_71 {sh : Nat → Nat × Nat} {t : Nat} {rm : Nat × Nat × Nat} {cs : Nat × Nat} {R : f_Rt} {c_X3_clear : Nat → e_M → (e_M → Prop) → Prop} {c_X11_turn : Int → Int → Int → Int → Int → Int → e_M → (Int → Prop) → Prop} {c_X3_add : Nat → Int → Int → e_M → (e_M → Prop) → Prop} {k103 : Nat → Int → Int → Int → e_M → Prop} {a1 : Nat} {x2 : Int} {x3 : Int} {M : e_M} (C : f_Hy sh t yX5_close rm cs 5 (lX5_close c_X3_clear c_X11_turn c_X3_add) R) (h103 : ∀ (a1 : Nat) (x2 : Int) (x3 : Int) (xs0 : Int) (M : e_M), k103 a1 x2 x3 xs0 M → f_E sh t YX5_close rm cs (f_Q sh t R) 103 [.inr (.inr (.inl (5, 12, 4426))), .inr (.inr (.inl (3, 3, a1))), .inl x2, .inl x3, .inr (.inr (.inr ())), .inr (.inr (.inr ())), .inr (.inr (.inr ()))] [.inl xs0] M) (h : VX5_close_71 c_X3_clear c_X11_turn c_X3_add k103 (fun r M => R (some (.inl r)) M) a1 x2 x3 M) : f_E sh t YX5_close rm cs (f_Q sh t R) 71 [.inr (.inr (.inl (5, 12, 4426))), .inr (.inr (.inl (3, 3, a1))), .inl x2, .inl x3, .inr (.inr (.inr ())), .inr (.inr (.inr ())), .inr (.inr (.inr ()))] [] M :=
  f_go (KC := f_kc [(103, f_pl [(4436, 5, 12), (3, 3, 3), (1, 0, 0), (1, 0, 0), (0, 0, 0), (0, 0, 0), (0, 0, 0)] [(1, 0, 0)] (fun ls st M => k103 (f_va (f_nth ls 1)) (f_vi (f_nth ls 2)) (f_vi (f_nth ls 3)) (f_vi (f_nth st 0)) M))]) C qX5_closef (f_kc_cons (f_pl_ok rfl (fun ls st M h => h103 _ _ _ _ M h)) f_kc_nil) 150 47 h
set_option maxRecDepth 20000 in
theorem BX5_close_103 {sh : Nat → Nat × Nat} {t : Nat} {rm : Nat × Nat × Nat} {cs : Nat × Nat} {R : f_Rt} {c_X3_clear : Nat → e_M → (e_M → Prop) → Prop} {c_X11_turn : Int → Int → Int → Int → Int → Int → e_M → (Int → Prop) → Prop} {c_X3_add : Nat → Int → Int → e_M → (e_M → Prop) → Prop} {k123 : Nat → Int → Int → Int → Int → e_M → Prop} {a1 : Nat} {x2 : Int} {x3 : Int} {xs0 : Int} {M : e_M} (C : f_Hy sh t yX5_close rm cs 5 (lX5_close c_X3_clear c_X11_turn c_X3_add) R) (h123 : ∀ (a1 : Nat) (x2 : Int) (x3 : Int) (x4 : Int) (xs0 : Int) (M : e_M), k123 a1 x2 x3 x4 xs0 M → f_E sh t YX5_close rm cs (f_Q sh t R) 123 [.inr (.inr (.inl (5, 12, 4426))), .inr (.inr (.inl (3, 3, a1))), .inl x2, .inl x3, .inl x4, .inr (.inr (.inr ())), .inr (.inr (.inr ()))] [.inl xs0] M) (h : VX5_close_103 c_X3_clear c_X11_turn c_X3_add k123 (fun r M => R (some (.inl r)) M) a1 x2 x3 xs0 M) : f_E sh t YX5_close rm cs (f_Q sh t R) 103 [.inr (.inr (.inl (5, 12, 4426))), .inr (.inr (.inl (3, 3, a1))), .inl x2, .inl x3, .inr (.inr (.inr ())), .inr (.inr (.inr ())), .inr (.inr (.inr ()))] [.inl xs0] M :=
  f_go (KC := f_kc [(123, f_pl [(4436, 5, 12), (3, 3, 3), (1, 0, 0), (1, 0, 0), (1, 0, 0), (0, 0, 0), (0, 0, 0)] [(1, 0, 0)] (fun ls st M => k123 (f_va (f_nth ls 1)) (f_vi (f_nth ls 2)) (f_vi (f_nth ls 3)) (f_vi (f_nth ls 4)) (f_vi (f_nth st 0)) M))]) C qX5_closef (f_kc_cons (f_pl_ok rfl (fun ls st M h => h123 _ _ _ _ _ M h)) f_kc_nil) 150 68 h
set_option maxRecDepth 20000 in
theorem BX5_close_123 {sh : Nat → Nat × Nat} {t : Nat} {rm : Nat × Nat × Nat} {cs : Nat × Nat} {R : f_Rt} {c_X3_clear : Nat → e_M → (e_M → Prop) → Prop} {c_X11_turn : Int → Int → Int → Int → Int → Int → e_M → (Int → Prop) → Prop} {c_X3_add : Nat → Int → Int → e_M → (e_M → Prop) → Prop} {k144 : Nat → Int → Int → Int → Int → Int → e_M → Prop} {a1 : Nat} {x2 : Int} {x3 : Int} {x4 : Int} {xs0 : Int} {M : e_M} (C : f_Hy sh t yX5_close rm cs 5 (lX5_close c_X3_clear c_X11_turn c_X3_add) R) (h144 : ∀ (a1 : Nat) (x2 : Int) (x3 : Int) (x4 : Int) (x5 : Int) (xs0 : Int) (M : e_M), k144 a1 x2 x3 x4 x5 xs0 M → f_E sh t YX5_close rm cs (f_Q sh t R) 144 [.inr (.inr (.inl (5, 12, 4426))), .inr (.inr (.inl (3, 3, a1))), .inl x2, .inl x3, .inl x4, .inl x5, .inr (.inr (.inr ()))] [.inl xs0] M) (h : VX5_close_123 c_X3_clear c_X11_turn c_X3_add k144 (fun r M => R (some (.inl r)) M) a1 x2 x3 x4 xs0 M) : f_E sh t YX5_close rm cs (f_Q sh t R) 123 [.inr (.inr (.inl (5, 12, 4426))), .inr (.inr (.inl (3, 3, a1))), .inl x2, .inl x3, .inl x4, .inr (.inr (.inr ())), .inr (.inr (.inr ()))] [.inl xs0] M :=
  f_go (KC := f_kc [(144, f_pl [(4436, 5, 12), (3, 3, 3), (1, 0, 0), (1, 0, 0), (1, 0, 0), (1, 0, 0), (0, 0, 0)] [(1, 0, 0)] (fun ls st M => k144 (f_va (f_nth ls 1)) (f_vi (f_nth ls 2)) (f_vi (f_nth ls 3)) (f_vi (f_nth ls 4)) (f_vi (f_nth ls 5)) (f_vi (f_nth st 0)) M))]) C qX5_closef (f_kc_cons (f_pl_ok rfl (fun ls st M h => h144 _ _ _ _ _ _ M h)) f_kc_nil) 150 80 h
set_option maxRecDepth 20000 in
theorem BX5_close_144 {sh : Nat → Nat × Nat} {t : Nat} {rm : Nat × Nat × Nat} {cs : Nat × Nat} {R : f_Rt} {c_X3_clear : Nat → e_M → (e_M → Prop) → Prop} {c_X11_turn : Int → Int → Int → Int → Int → Int → e_M → (Int → Prop) → Prop} {c_X3_add : Nat → Int → Int → e_M → (e_M → Prop) → Prop} {k225 : Nat → Int → Int → e_M → Prop} {a1 : Nat} {x2 : Int} {x3 : Int} {x4 : Int} {x5 : Int} {xs0 : Int} {M : e_M} (C : f_Hy sh t yX5_close rm cs 5 (lX5_close c_X3_clear c_X11_turn c_X3_add) R) (h225 : ∀ (a1 : Nat) (x2 : Int) (x3 : Int) (M : e_M), k225 a1 x2 x3 M → f_E sh t YX5_close rm cs (f_Q sh t R) 225 [.inr (.inr (.inl (5, 12, 4426))), .inr (.inr (.inl (3, 3, a1))), .inl x2, .inl x3, .inr (.inr (.inr ())), .inr (.inr (.inr ())), .inr (.inr (.inr ()))] [] M) (h : VX5_close_144 c_X3_clear c_X11_turn c_X3_add k225 (fun r M => R (some (.inl r)) M) a1 x2 x3 x4 x5 xs0 M) : f_E sh t YX5_close rm cs (f_Q sh t R) 144 [.inr (.inr (.inl (5, 12, 4426))), .inr (.inr (.inl (3, 3, a1))), .inl x2, .inl x3, .inl x4, .inl x5, .inr (.inr (.inr ()))] [.inl xs0] M :=
  f_go (KC := f_kc [(225, f_pl [(4436, 5, 12), (3, 3, 3), (1, 0, 0), (1, 0, 0), (0, 0, 0), (0, 0, 0), (0, 0, 0)] [] (fun ls st M => k225 (f_va (f_nth ls 1)) (f_vi (f_nth ls 2)) (f_vi (f_nth ls 3)) M))]) C qX5_closef (f_kc_cons (f_pl_ok rfl (fun ls st M h => h225 _ _ _ M h)) f_kc_nil) 150 93 h
set_option maxRecDepth 20000 in
theorem BX5_close_225 {sh : Nat → Nat × Nat} {t : Nat} {rm : Nat × Nat × Nat} {cs : Nat × Nat} {R : f_Rt} {c_X3_clear : Nat → e_M → (e_M → Prop) → Prop} {c_X11_turn : Int → Int → Int → Int → Int → Int → e_M → (Int → Prop) → Prop} {c_X3_add : Nat → Int → Int → e_M → (e_M → Prop) → Prop} {k71 : Nat → Int → Int → e_M → Prop} {a1 : Nat} {x2 : Int} {x3 : Int} {M : e_M} (C : f_Hy sh t yX5_close rm cs 5 (lX5_close c_X3_clear c_X11_turn c_X3_add) R) (h71 : ∀ (a1 : Nat) (x2 : Int) (x3 : Int) (M : e_M), k71 a1 x2 x3 M → f_E sh t YX5_close rm cs (f_Q sh t R) 71 [.inr (.inr (.inl (5, 12, 4426))), .inr (.inr (.inl (3, 3, a1))), .inl x2, .inl x3, .inr (.inr (.inr ())), .inr (.inr (.inr ())), .inr (.inr (.inr ()))] [] M) (h : VX5_close_225 c_X3_clear c_X11_turn c_X3_add k71 (fun r M => R (some (.inl r)) M) a1 x2 x3 M) : f_E sh t YX5_close rm cs (f_Q sh t R) 225 [.inr (.inr (.inl (5, 12, 4426))), .inr (.inr (.inl (3, 3, a1))), .inl x2, .inl x3, .inr (.inr (.inr ())), .inr (.inr (.inr ())), .inr (.inr (.inr ()))] [] M :=
  f_go (KC := f_kc [(71, f_pl [(4436, 5, 12), (3, 3, 3), (1, 0, 0), (1, 0, 0), (0, 0, 0), (0, 0, 0), (0, 0, 0)] [] (fun ls st M => k71 (f_va (f_nth ls 1)) (f_vi (f_nth ls 2)) (f_vi (f_nth ls 3)) M))]) C qX5_closef (f_kc_cons (f_pl_ok rfl (fun ls st M h => h71 _ _ _ M h)) f_kc_nil) 150 138 h
set_option maxRecDepth 20000 in
theorem BX5_close {sh : Nat → Nat × Nat} {t : Nat} {rm : Nat × Nat × Nat} {cs : Nat × Nat} {R : f_Rt} {c_X3_clear : Nat → e_M → (e_M → Prop) → Prop} {c_X11_turn : Int → Int → Int → Int → Int → Int → e_M → (Int → Prop) → Prop} {c_X3_add : Nat → Int → Int → e_M → (e_M → Prop) → Prop} {k4 : Nat → Int → Int → e_M → Prop} {a1 : Nat} {M : e_M} (C : f_Hy sh t yX5_close rm cs 5 (lX5_close c_X3_clear c_X11_turn c_X3_add) R) (h4 : ∀ (a1 : Nat) (x2 : Int) (x3 : Int) (M : e_M), k4 a1 x2 x3 M → f_E sh t YX5_close rm cs (f_Q sh t R) 4 [.inr (.inr (.inl (5, 12, 4426))), .inr (.inr (.inl (3, 3, a1))), .inl x2, .inl x3, .inr (.inr (.inr ())), .inr (.inr (.inr ())), .inr (.inr (.inr ()))] [] M) (h : VX5_close c_X3_clear c_X11_turn c_X3_add k4 (fun r M => R (some (.inl r)) M) a1 M) : f_E sh t YX5_close rm cs (f_Q sh t R) 0 [.inr (.inr (.inl (5, 12, 4426))), .inr (.inr (.inl (3, 3, a1))), .inr (.inr (.inr ())), .inr (.inr (.inr ())), .inr (.inr (.inr ())), .inr (.inr (.inr ())), .inr (.inr (.inr ()))] [] M :=
  f_go (KC := f_kc [(4, f_pl [(4436, 5, 12), (3, 3, 3), (1, 0, 0), (1, 0, 0), (0, 0, 0), (0, 0, 0), (0, 0, 0)] [] (fun ls st M => k4 (f_va (f_nth ls 1)) (f_vi (f_nth ls 2)) (f_vi (f_nth ls 3)) M))]) C qX5_closef (f_kc_cons (f_pl_ok rfl (fun ls st M h => h4 _ _ _ M h)) f_kc_nil) 150 0 h
def WX5_close_225 (H71 : Nat → Int → Int → e_M → Prop) (Q : Int → e_M → Prop) (a1 : Nat) (x2 : Int) (x3 : Int) (M : e_M) : Prop :=
  VX5_close_225 WX3_clear WX11_turn WX3_add H71 Q a1 x2 x3 M
def WX5_close_144 (H71 : Nat → Int → Int → e_M → Prop) (Q : Int → e_M → Prop) (a1 : Nat) (x2 : Int) (x3 : Int) (x4 : Int) (x5 : Int) (xs0 : Int) (M : e_M) : Prop :=
  VX5_close_144 WX3_clear WX11_turn WX3_add (WX5_close_225 H71 Q) Q a1 x2 x3 x4 x5 xs0 M
def WX5_close_123 (H71 : Nat → Int → Int → e_M → Prop) (Q : Int → e_M → Prop) (a1 : Nat) (x2 : Int) (x3 : Int) (x4 : Int) (xs0 : Int) (M : e_M) : Prop :=
  VX5_close_123 WX3_clear WX11_turn WX3_add (WX5_close_144 H71 Q) Q a1 x2 x3 x4 xs0 M
def WX5_close_103 (H71 : Nat → Int → Int → e_M → Prop) (Q : Int → e_M → Prop) (a1 : Nat) (x2 : Int) (x3 : Int) (xs0 : Int) (M : e_M) : Prop :=
  VX5_close_103 WX3_clear WX11_turn WX3_add (WX5_close_123 H71 Q) Q a1 x2 x3 xs0 M
def WX5_close_71 (Q : Int → e_M → Prop) : Nat → Nat → Int → Int → e_M → Prop
  | 0, _, _, _, _ => False
  | n + 1, a1, x2, x3, M =>
    VX5_close_71 WX3_clear WX11_turn WX3_add (WX5_close_103 (WX5_close_71 Q n) Q) Q a1 x2 x3 M
def WX5_close_59 (H4 : Nat → Int → Int → e_M → Prop) (Q : Int → e_M → Prop) (a1 : Nat) (x2 : Int) (x3 : Int) (M : e_M) : Prop :=
  VX5_close_59 WX3_clear WX11_turn WX3_add H4 Q a1 x2 x3 M
def WX5_close_57 (H4 : Nat → Int → Int → e_M → Prop) (Q : Int → e_M → Prop) (a1 : Nat) (x3 : Int) (M : e_M) : Prop :=
  VX5_close_57 WX3_clear WX11_turn WX3_add (WX5_close_59 H4 Q) Q a1 x3 M
def WX5_close_4 (Q : Int → e_M → Prop) : Nat → Nat → Int → Int → e_M → Prop
  | 0, _, _, _, _ => False
  | n + 1, a1, x2, x3, M =>
    VX5_close_4 WX3_clear WX11_turn WX3_add (fun a1 x2 x3 M => ∃ j, WX5_close_71 Q j a1 x2 x3 M) (WX5_close_57 (WX5_close_4 Q n) Q) (WX5_close_59 (WX5_close_4 Q n) Q) Q a1 x2 x3 M
def WX5_close (a1 : Nat) (M : e_M) (Q : Int → e_M → Prop) : Prop :=
  VX5_close WX3_clear WX11_turn WX3_add (fun a1 x2 x3 M => ∃ j, WX5_close_4 Q j a1 x2 x3 M) Q a1 M
theorem PX5_close_225 {sh : Nat → Nat × Nat} {t : Nat} {rm : Nat × Nat × Nat} {cs : Nat × Nat} {R : f_Rt} {H71 : Nat → Int → Int → e_M → Prop} {a1 : Nat} {x2 : Int} {x3 : Int} {M : e_M} (C : f_Hy sh t yX5_close rm cs 5 (lX5_close WX3_clear WX11_turn WX3_add) R) (g71 : ∀ (a1 : Nat) (x2 : Int) (x3 : Int) (M : e_M), H71 a1 x2 x3 M → f_E sh t YX5_close rm cs (f_Q sh t R) 71 [.inr (.inr (.inl (5, 12, 4426))), .inr (.inr (.inl (3, 3, a1))), .inl x2, .inl x3, .inr (.inr (.inr ())), .inr (.inr (.inr ())), .inr (.inr (.inr ()))] [] M) (h : WX5_close_225 H71 (fun r M => R (some (.inl r)) M) a1 x2 x3 M) : f_E sh t YX5_close rm cs (f_Q sh t R) 225 [.inr (.inr (.inl (5, 12, 4426))), .inr (.inr (.inl (3, 3, a1))), .inl x2, .inl x3, .inr (.inr (.inr ())), .inr (.inr (.inr ())), .inr (.inr (.inr ()))] [] M :=
  BX5_close_225 C g71 h
theorem PX5_close_144 {sh : Nat → Nat × Nat} {t : Nat} {rm : Nat × Nat × Nat} {cs : Nat × Nat} {R : f_Rt} {H71 : Nat → Int → Int → e_M → Prop} {a1 : Nat} {x2 : Int} {x3 : Int} {x4 : Int} {x5 : Int} {xs0 : Int} {M : e_M} (C : f_Hy sh t yX5_close rm cs 5 (lX5_close WX3_clear WX11_turn WX3_add) R) (g71 : ∀ (a1 : Nat) (x2 : Int) (x3 : Int) (M : e_M), H71 a1 x2 x3 M → f_E sh t YX5_close rm cs (f_Q sh t R) 71 [.inr (.inr (.inl (5, 12, 4426))), .inr (.inr (.inl (3, 3, a1))), .inl x2, .inl x3, .inr (.inr (.inr ())), .inr (.inr (.inr ())), .inr (.inr (.inr ()))] [] M) (h : WX5_close_144 H71 (fun r M => R (some (.inl r)) M) a1 x2 x3 x4 x5 xs0 M) : f_E sh t YX5_close rm cs (f_Q sh t R) 144 [.inr (.inr (.inl (5, 12, 4426))), .inr (.inr (.inl (3, 3, a1))), .inl x2, .inl x3, .inl x4, .inl x5, .inr (.inr (.inr ()))] [.inl xs0] M :=
  BX5_close_144 C (fun a1 x2 x3 M h => PX5_close_225 C g71 h) h
theorem PX5_close_123 {sh : Nat → Nat × Nat} {t : Nat} {rm : Nat × Nat × Nat} {cs : Nat × Nat} {R : f_Rt} {H71 : Nat → Int → Int → e_M → Prop} {a1 : Nat} {x2 : Int} {x3 : Int} {x4 : Int} {xs0 : Int} {M : e_M} (C : f_Hy sh t yX5_close rm cs 5 (lX5_close WX3_clear WX11_turn WX3_add) R) (g71 : ∀ (a1 : Nat) (x2 : Int) (x3 : Int) (M : e_M), H71 a1 x2 x3 M → f_E sh t YX5_close rm cs (f_Q sh t R) 71 [.inr (.inr (.inl (5, 12, 4426))), .inr (.inr (.inl (3, 3, a1))), .inl x2, .inl x3, .inr (.inr (.inr ())), .inr (.inr (.inr ())), .inr (.inr (.inr ()))] [] M) (h : WX5_close_123 H71 (fun r M => R (some (.inl r)) M) a1 x2 x3 x4 xs0 M) : f_E sh t YX5_close rm cs (f_Q sh t R) 123 [.inr (.inr (.inl (5, 12, 4426))), .inr (.inr (.inl (3, 3, a1))), .inl x2, .inl x3, .inl x4, .inr (.inr (.inr ())), .inr (.inr (.inr ()))] [.inl xs0] M :=
  BX5_close_123 C (fun a1 x2 x3 x4 x5 xs0 M h => PX5_close_144 C g71 h) h
theorem PX5_close_103 {sh : Nat → Nat × Nat} {t : Nat} {rm : Nat × Nat × Nat} {cs : Nat × Nat} {R : f_Rt} {H71 : Nat → Int → Int → e_M → Prop} {a1 : Nat} {x2 : Int} {x3 : Int} {xs0 : Int} {M : e_M} (C : f_Hy sh t yX5_close rm cs 5 (lX5_close WX3_clear WX11_turn WX3_add) R) (g71 : ∀ (a1 : Nat) (x2 : Int) (x3 : Int) (M : e_M), H71 a1 x2 x3 M → f_E sh t YX5_close rm cs (f_Q sh t R) 71 [.inr (.inr (.inl (5, 12, 4426))), .inr (.inr (.inl (3, 3, a1))), .inl x2, .inl x3, .inr (.inr (.inr ())), .inr (.inr (.inr ())), .inr (.inr (.inr ()))] [] M) (h : WX5_close_103 H71 (fun r M => R (some (.inl r)) M) a1 x2 x3 xs0 M) : f_E sh t YX5_close rm cs (f_Q sh t R) 103 [.inr (.inr (.inl (5, 12, 4426))), .inr (.inr (.inl (3, 3, a1))), .inl x2, .inl x3, .inr (.inr (.inr ())), .inr (.inr (.inr ())), .inr (.inr (.inr ()))] [.inl xs0] M :=
  BX5_close_103 C (fun a1 x2 x3 x4 xs0 M h => PX5_close_123 C g71 h) h
theorem PX5_close_71 {sh : Nat → Nat × Nat} {t : Nat} {rm : Nat × Nat × Nat} {cs : Nat × Nat} {R : f_Rt} (C : f_Hy sh t yX5_close rm cs 5 (lX5_close WX3_clear WX11_turn WX3_add) R) : ∀ (n : Nat) (a1 : Nat) (x2 : Int) (x3 : Int) (M : e_M), WX5_close_71 (fun r M => R (some (.inl r)) M) n a1 x2 x3 M → f_E sh t YX5_close rm cs (f_Q sh t R) 71 [.inr (.inr (.inl (5, 12, 4426))), .inr (.inr (.inl (3, 3, a1))), .inl x2, .inl x3, .inr (.inr (.inr ())), .inr (.inr (.inr ())), .inr (.inr (.inr ()))] [] M := by
  intro n
  induction n with
  | zero => intro a1 x2 x3 M h; exact h.elim
  | succ n ih => intro a1 x2 x3 M h; exact BX5_close_71 C (fun a1 x2 x3 xs0 M h => PX5_close_103 C ih h) h
theorem PX5_close_59 {sh : Nat → Nat × Nat} {t : Nat} {rm : Nat × Nat × Nat} {cs : Nat × Nat} {R : f_Rt} {H4 : Nat → Int → Int → e_M → Prop} {a1 : Nat} {x2 : Int} {x3 : Int} {M : e_M} (C : f_Hy sh t yX5_close rm cs 5 (lX5_close WX3_clear WX11_turn WX3_add) R) (g4 : ∀ (a1 : Nat) (x2 : Int) (x3 : Int) (M : e_M), H4 a1 x2 x3 M → f_E sh t YX5_close rm cs (f_Q sh t R) 4 [.inr (.inr (.inl (5, 12, 4426))), .inr (.inr (.inl (3, 3, a1))), .inl x2, .inl x3, .inr (.inr (.inr ())), .inr (.inr (.inr ())), .inr (.inr (.inr ()))] [] M) (h : WX5_close_59 H4 (fun r M => R (some (.inl r)) M) a1 x2 x3 M) : f_E sh t YX5_close rm cs (f_Q sh t R) 59 [.inr (.inr (.inl (5, 12, 4426))), .inr (.inr (.inl (3, 3, a1))), .inl x2, .inl x3, .inr (.inr (.inr ())), .inr (.inr (.inr ())), .inr (.inr (.inr ()))] [] M :=
  BX5_close_59 C g4 h
theorem PX5_close_57 {sh : Nat → Nat × Nat} {t : Nat} {rm : Nat × Nat × Nat} {cs : Nat × Nat} {R : f_Rt} {H4 : Nat → Int → Int → e_M → Prop} {a1 : Nat} {x3 : Int} {M : e_M} (C : f_Hy sh t yX5_close rm cs 5 (lX5_close WX3_clear WX11_turn WX3_add) R) (g4 : ∀ (a1 : Nat) (x2 : Int) (x3 : Int) (M : e_M), H4 a1 x2 x3 M → f_E sh t YX5_close rm cs (f_Q sh t R) 4 [.inr (.inr (.inl (5, 12, 4426))), .inr (.inr (.inl (3, 3, a1))), .inl x2, .inl x3, .inr (.inr (.inr ())), .inr (.inr (.inr ())), .inr (.inr (.inr ()))] [] M) (h : WX5_close_57 H4 (fun r M => R (some (.inl r)) M) a1 x3 M) : f_E sh t YX5_close rm cs (f_Q sh t R) 57 [.inr (.inr (.inl (5, 12, 4426))), .inr (.inr (.inl (3, 3, a1))), .inr (.inr (.inr ())), .inl x3, .inr (.inr (.inr ())), .inr (.inr (.inr ())), .inr (.inr (.inr ()))] [] M :=
  BX5_close_57 C (fun a1 x2 x3 M h => PX5_close_59 C g4 h) h
theorem PX5_close_4 {sh : Nat → Nat × Nat} {t : Nat} {rm : Nat × Nat × Nat} {cs : Nat × Nat} {R : f_Rt} (C : f_Hy sh t yX5_close rm cs 5 (lX5_close WX3_clear WX11_turn WX3_add) R) : ∀ (n : Nat) (a1 : Nat) (x2 : Int) (x3 : Int) (M : e_M), WX5_close_4 (fun r M => R (some (.inl r)) M) n a1 x2 x3 M → f_E sh t YX5_close rm cs (f_Q sh t R) 4 [.inr (.inr (.inl (5, 12, 4426))), .inr (.inr (.inl (3, 3, a1))), .inl x2, .inl x3, .inr (.inr (.inr ())), .inr (.inr (.inr ())), .inr (.inr (.inr ()))] [] M := by
  intro n
  induction n with
  | zero => intro a1 x2 x3 M h; exact h.elim
  | succ n ih => intro a1 x2 x3 M h; exact BX5_close_4 C (fun a1 x2 x3 M ⟨j, h⟩ => PX5_close_71 C j _ _ _ _ h) (fun a1 x3 M h => PX5_close_57 C ih h) (fun a1 x2 x3 M h => PX5_close_59 C ih h) h
theorem PX5_close {sh : Nat → Nat × Nat} {t : Nat} {rm : Nat × Nat × Nat} {cs : Nat × Nat} {R : f_Rt} {a1 : Nat} {M : e_M} (C : f_Hy sh t yX5_close rm cs 5 (lX5_close WX3_clear WX11_turn WX3_add) R) (h : WX5_close a1 M (fun r M => R (some (.inl r)) M)) : f_E sh t YX5_close rm cs (f_Q sh t R) 0 [.inr (.inr (.inl (5, 12, 4426))), .inr (.inr (.inl (3, 3, a1))), .inr (.inr (.inr ())), .inr (.inr (.inr ())), .inr (.inr (.inr ())), .inr (.inr (.inr ())), .inr (.inr (.inr ()))] [] M :=
  BX5_close C (fun a1 x2 x3 M ⟨j, h⟩ => PX5_close_4 C j _ _ _ _ h) h
def wX5_close : f_Wt := f_wm [(4436, 5, 12), (3, 3, 3)] (fun ar M R => WX5_close (f_va (f_nth ar 1)) M (fun r M => R (some (.inl r)) M))
theorem TX5_close {sh : Nat → Nat × Nat} {t : Nat} : f_Mt sh t YX5_close 5 (wX5_close) :=
  f_Mt_of (k := 5) (Nat.le_of_ble_eq_true rfl) rfl rfl (fun ar M R rm cs h1 h2 h3 hX h => PX5_close ⟨Nat.le_of_ble_eq_true rfl, h1, h2, h3, ⟨(f_Mt.up (Nat.le_of_ble_eq_true rfl) TX3_clear), (f_Mt.up (Nat.le_of_ble_eq_true rfl) TX11_turn), (f_Mt.up (Nat.le_of_ble_eq_true rfl) TX3_add), trivial⟩, hX⟩ h)
def VX5_cut_44 (c_X3_where : Nat → Int → Int → Int → e_M → (Int → Prop) → Prop) (c_X5_isInside : Nat → Nat → Int → e_M → (Int → Prop) → Prop) (c_X5_meetsLater : Nat → Int → e_M → (Int → Prop) → Prop) (c_X5_layCut : Nat → Int → Int → e_M → (e_M → Prop) → Prop) (c_X5_layBorder : Nat → Int → Int → Int → Int → e_M → (e_M → Prop) → Prop) (c_X5_close : Nat → e_M → (Int → e_M → Prop) → Prop) (k47 : Nat → Nat → Int → Int → e_M → Prop) (Q : Int → e_M → Prop) (a1 : Nat) (a2 : Nat) (x3 : Int) (M : e_M) : Prop :=
  (k47 a1 a2 x3 0 M)
def VX5_cut_47 (c_X3_where : Nat → Int → Int → Int → e_M → (Int → Prop) → Prop) (c_X5_isInside : Nat → Nat → Int → e_M → (Int → Prop) → Prop) (c_X5_meetsLater : Nat → Int → e_M → (Int → Prop) → Prop) (c_X5_layCut : Nat → Int → Int → e_M → (e_M → Prop) → Prop) (c_X5_layBorder : Nat → Int → Int → Int → Int → e_M → (e_M → Prop) → Prop) (c_X5_close : Nat → e_M → (Int → e_M → Prop) → Prop) (k108 : Nat → Nat → Int → Int → e_M → Prop) (k64 : Nat → Nat → Int → Int → e_M → Prop) (k69 : Nat → Nat → Int → Int → Int → e_M → Prop) (Q : Int → e_M → Prop) (a1 : Nat) (a2 : Nat) (x3 : Int) (x4 : Int) (M : e_M) : Prop :=
  ((x3 < x4 → (k108 a1 a2 x3 0 M)) ∧ (x4 ≤ x3 → ((x4 = 0 → (k64 a1 a2 x3 x4 M)) ∧ (¬ x4 = 0 → ((¬ x4 = x3 → (k69 a1 a2 x3 x4 2 M)) ∧ (x4 = x3 → (k64 a1 a2 x3 x4 M)))))))
def VX5_cut_64 (c_X3_where : Nat → Int → Int → Int → e_M → (Int → Prop) → Prop) (c_X5_isInside : Nat → Nat → Int → e_M → (Int → Prop) → Prop) (c_X5_meetsLater : Nat → Int → e_M → (Int → Prop) → Prop) (c_X5_layCut : Nat → Int → Int → e_M → (e_M → Prop) → Prop) (c_X5_layBorder : Nat → Int → Int → Int → Int → e_M → (e_M → Prop) → Prop) (c_X5_close : Nat → e_M → (Int → e_M → Prop) → Prop) (k69 : Nat → Nat → Int → Int → Int → e_M → Prop) (Q : Int → e_M → Prop) (a1 : Nat) (a2 : Nat) (x3 : Int) (x4 : Int) (M : e_M) : Prop :=
  (k69 a1 a2 x3 x4 1 M)
def VX5_cut_69 (c_X3_where : Nat → Int → Int → Int → e_M → (Int → Prop) → Prop) (c_X5_isInside : Nat → Nat → Int → e_M → (Int → Prop) → Prop) (c_X5_meetsLater : Nat → Int → e_M → (Int → Prop) → Prop) (c_X5_layCut : Nat → Int → Int → e_M → (e_M → Prop) → Prop) (c_X5_layBorder : Nat → Int → Int → Int → Int → e_M → (e_M → Prop) → Prop) (c_X5_close : Nat → e_M → (Int → e_M → Prop) → Prop) (k47 : Nat → Nat → Int → Int → e_M → Prop) (Q : Int → e_M → Prop) (a1 : Nat) (a2 : Nat) (x3 : Int) (x4 : Int) (xs0 : Int) (M : e_M) : Prop :=
  ((0 ≤ x4 ∧ x4 < 12) ∧ ((0 ≤ x4 ∧ x4 < 12) ∧ (c_X3_where a1 (M (a2 + 5) (x4.toNat)) (M (a2 + 6) (x4.toNat)) 1 M (fun r1 => ((r1 = xs0 → (k47 a1 a2 x3 (e_w32 (x4 + 1)) M)) ∧ (¬ r1 = xs0 → (Q 0 M)))))))
def VX5_cut_108 (c_X3_where : Nat → Int → Int → Int → e_M → (Int → Prop) → Prop) (c_X5_isInside : Nat → Nat → Int → e_M → (Int → Prop) → Prop) (c_X5_meetsLater : Nat → Int → e_M → (Int → Prop) → Prop) (c_X5_layCut : Nat → Int → Int → e_M → (e_M → Prop) → Prop) (c_X5_layBorder : Nat → Int → Int → Int → Int → e_M → (e_M → Prop) → Prop) (c_X5_close : Nat → e_M → (Int → e_M → Prop) → Prop) (k108 : Nat → Nat → Int → Int → e_M → Prop) (Q : Int → e_M → Prop) (a1 : Nat) (a2 : Nat) (x3 : Int) (x4 : Int) (M : e_M) : Prop :=
  ((x3 ≤ x4 → (c_X5_layCut a2 0 1 M (fun M1 => ((0 ≤ x3 ∧ x3 < 12) ∧ ((0 ≤ x3 ∧ x3 < 12) ∧ ((0 ≤ (0 : Int) ∧ (0 : Int) < 12) ∧ ((0 ≤ (0 : Int) ∧ (0 : Int) < 12) ∧ (c_X5_layBorder a1 (M1 (a2 + 5) (x3.toNat)) (M1 (a2 + 6) (x3.toNat)) (M1 (a2 + 5) ((0 : Int).toNat)) (M1 (a2 + 6) ((0 : Int).toNat)) M1 (fun M2 => (c_X5_close 4427 M2 (fun r3 M4 => (c_X5_layCut a2 x3 (-1) M4 (fun M5 => ((0 ≤ (0 : Int) ∧ (0 : Int) < 12) ∧ ((0 ≤ (0 : Int) ∧ (0 : Int) < 12) ∧ ((0 ≤ x3 ∧ x3 < 12) ∧ ((0 ≤ x3 ∧ x3 < 12) ∧ (c_X5_layBorder a1 (M5 (a2 + 5) ((0 : Int).toNat)) (M5 (a2 + 6) ((0 : Int).toNat)) (M5 (a2 + 5) (x3.toNat)) (M5 (a2 + 6) (x3.toNat)) M5 (fun M6 => (c_X5_close 4430 M6 (fun r7 M8 => ((r7 = 0 → (Q 0 M8)) ∧ (¬ r7 = 0 → ((r3 = 0 → (Q 0 M8)) ∧ (¬ r3 = 0 → (Q 1 M8)))))))))))))))))))))))))) ∧ (x4 < x3 → (c_X5_isInside a1 a2 x4 M (fun r9 => ((r9 = 0 → (Q 0 M)) ∧ (¬ r9 = 0 → (c_X5_meetsLater a2 x4 M (fun r10 => ((r10 = 0 → (k108 a1 a2 x3 (e_w32 (x4 + 1)) M)) ∧ (¬ r10 = 0 → (Q 0 M)))))))))))
def VX5_cut (c_X3_where : Nat → Int → Int → Int → e_M → (Int → Prop) → Prop) (c_X5_isInside : Nat → Nat → Int → e_M → (Int → Prop) → Prop) (c_X5_meetsLater : Nat → Int → e_M → (Int → Prop) → Prop) (c_X5_layCut : Nat → Int → Int → e_M → (e_M → Prop) → Prop) (c_X5_layBorder : Nat → Int → Int → Int → Int → e_M → (e_M → Prop) → Prop) (c_X5_close : Nat → e_M → (Int → e_M → Prop) → Prop) (k44 : Nat → Nat → Int → e_M → Prop) (Q : Int → e_M → Prop) (a1 : Nat) (a2 : Nat) (M : e_M) : Prop :=
  (((e_w32 ((M a2 18) - 1)) < 1 → (Q 0 M)) ∧ (1 ≤ (e_w32 ((M a2 18) - 1)) → ((0 ≤ (0 : Int) ∧ (0 : Int) < 12) ∧ ((0 ≤ (e_w32 ((M a2 18) - 1)) ∧ (e_w32 ((M a2 18) - 1)) < 12) ∧ ((¬ (M (a2 + 5) ((0 : Int).toNat)) = (M (a2 + 5) ((e_w32 ((M a2 18) - 1)).toNat)) → (k44 a1 a2 (e_w32 ((M a2 18) - 1)) M)) ∧ ((M (a2 + 5) ((0 : Int).toNat)) = (M (a2 + 5) ((e_w32 ((M a2 18) - 1)).toNat)) → ((0 ≤ (0 : Int) ∧ (0 : Int) < 12) ∧ ((0 ≤ (e_w32 ((M a2 18) - 1)) ∧ (e_w32 ((M a2 18) - 1)) < 12) ∧ ((¬ (M (a2 + 6) ((0 : Int).toNat)) = (M (a2 + 6) ((e_w32 ((M a2 18) - 1)).toNat)) → (k44 a1 a2 (e_w32 ((M a2 18) - 1)) M)) ∧ ((M (a2 + 6) ((0 : Int).toNat)) = (M (a2 + 6) ((e_w32 ((M a2 18) - 1)).toNat)) → (Q 0 M)))))))))))
def yX5_cut (i : Nat) : e_Y := x_get YX5_cut [YX3_where, YX5_isInside, YX5_meetsLater, YX5_layCut, YX5_layBorder, YX5_close] i
def pX5_cutf : List x_I := [(0, 4, 1, 2, 0, 0, []), (1, 25, 2, 18, 0, 0, []), (4, 0, 1, 0, 0, 1, []), (5, 9, 0, 1, 0, 0, []), (6, 5, 1, 3, 0, 0, []), (7, 2, 1, 3, 0, 0, []), (8, 0, 1, 0, 0, 1, []), (9, 18, 42, 2, 27, 0, []), (12, 4, 1, 2, 0, 0, []), (13, 25, 2, 16, 4, 0, [(0, 20, 12), (0, 1, 5)]), (16, 0, 1, 0, 0, 0, []), (17, 27, 0, 0, 0, 0, []), (18, 4, 1, 2, 0, 0, []), (19, 25, 2, 16, 4, 0, [(0, 20, 12), (0, 1, 5)]), (22, 2, 1, 3, 0, 0, []), (23, 27, 0, 0, 0, 0, []), (24, 18, 44, 1, 29, 0, []), (27, 4, 1, 2, 0, 0, []), (28, 25, 2, 17, 4, 0, [(0, 20, 12), (0, 1, 6)]), (31, 0, 1, 0, 0, 0, []), (32, 27, 0, 0, 0, 0, []), (33, 4, 1, 2, 0, 0, []), (34, 25, 2, 17, 4, 0, [(0, 20, 12), (0, 1, 6)]), (37, 2, 1, 3, 0, 0, []), (38, 27, 0, 0, 0, 0, []), (39, 18, 44, 1, 29, 0, []), (42, 0, 1, 0, 0, 0, []), (43, 48, 0, 0, 0, 0, []), (44, 49, 0, 0, 0, 0, []), (44, 0, 1, 0, 0, 0, []), (45, 5, 2, 4, 0, 0, []), (47, 49, 0, 0, 0, 0, []), (47, 2, 2, 4, 0, 0, []), (49, 2, 1, 3, 0, 0, []), (50, 18, 105, 4, 66, 0, []), (53, 2, 2, 4, 0, 0, []), (55, 17, 64, 0, 41, 0, []), (58, 2, 2, 4, 0, 0, []), (60, 2, 1, 3, 0, 0, []), (61, 18, 68, 1, 44, 0, []), (64, 49, 0, 0, 0, 0, []), (64, 0, 1, 0, 0, 1, []), (65, 19, 69, 0, 45, 0, []), (68, 0, 1, 0, 0, 2, []), (69, 49, 0, 0, 0, 0, []), (69, 5, 2, 5, 0, 0, []), (71, 4, 1, 1, 0, 0, []), (72, 4, 1, 2, 0, 0, []), (73, 25, 2, 16, 4, 0, [(0, 20, 12), (0, 1, 5)]), (76, 2, 2, 4, 0, 0, []), (78, 27, 0, 0, 0, 0, []), (79, 14, 0, 0, 0, 0, []), (80, 4, 1, 2, 0, 0, []), (81, 25, 2, 17, 4, 0, [(0, 20, 12), (0, 1, 6)]), (84, 2, 2, 4, 0, 0, []), (86, 27, 0, 0, 0, 0, []), (87, 14, 0, 0, 0, 0, []), (88, 0, 1, 0, 0, 1, []), (89, 40, 0, 4, 5, 0, []), (92, 2, 2, 5, 0, 0, []), (94, 18, 99, 0, 64, 0, []), (97, 0, 1, 0, 0, 0, []), (98, 48, 0, 0, 0, 0, []), (99, 8, 0, 4, 0, 1, []), (102, 19, 47, 0, 32, 0, []), (105, 0, 1, 0, 0, 0, []), (106, 5, 2, 4, 0, 0, []), (108, 49, 0, 0, 0, 0, []), (108, 2, 2, 4, 0, 0, []), (110, 2, 1, 3, 0, 0, []), (111, 18, 142, 3, 86, 0, []), (114, 4, 1, 0, 0, 0, []), (115, 4, 1, 1, 0, 0, []), (116, 4, 1, 2, 0, 0, []), (117, 2, 2, 4, 0, 0, []), (119, 40, 1, 4, 7, 0, []), (122, 17, 134, 0, 82, 0, []), (125, 4, 1, 2, 0, 0, []), (126, 2, 2, 4, 0, 0, []), (128, 40, 2, 2, 0, 0, []), (131, 17, 136, 0, 84, 0, []), (134, 0, 1, 0, 0, 0, []), (135, 48, 0, 0, 0, 0, []), (136, 8, 0, 4, 0, 1, []), (139, 19, 108, 0, 68, 0, []), (142, 4, 1, 0, 0, 0, []), (143, 4, 1, 2, 0, 0, []), (144, 0, 1, 0, 0, 0, []), (145, 0, 1, 0, 0, 1, []), (146, 40, 3, 4, 7, 0, []), (149, 4, 1, 0, 0, 0, []), (150, 4, 1, 1, 0, 0, []), (151, 4, 1, 2, 0, 0, []), (152, 25, 2, 16, 4, 0, [(0, 20, 12), (0, 1, 5)]), (155, 2, 1, 3, 0, 0, []), (156, 27, 0, 0, 0, 0, []), (157, 4, 1, 2, 0, 0, []), (158, 25, 2, 17, 4, 0, [(0, 20, 12), (0, 1, 6)]), (161, 2, 1, 3, 0, 0, []), (162, 27, 0, 0, 0, 0, []), (163, 4, 1, 2, 0, 0, []), (164, 25, 2, 16, 4, 0, [(0, 20, 12), (0, 1, 5)]), (167, 0, 1, 0, 0, 0, []), (168, 27, 0, 0, 0, 0, []), (169, 4, 1, 2, 0, 0, []), (170, 25, 2, 17, 4, 0, [(0, 20, 12), (0, 1, 6)]), (173, 0, 1, 0, 0, 0, []), (174, 27, 0, 0, 0, 0, []), (175, 40, 4, 6, 7, 0, []), (178, 4, 1, 0, 0, 0, []), (179, 4, 1, 0, 0, 0, []), (180, 25, 5, 0, 4, 0, [(0, 3, 3), (0, 1, 1)]), (183, 40, 5, 2, 7, 0, []), (186, 5, 2, 4, 0, 0, []), (188, 4, 1, 0, 0, 0, []), (189, 4, 1, 2, 0, 0, []), (190, 2, 1, 3, 0, 0, []), (191, 0, 1, 0, 0, (-1), []), (192, 40, 3, 4, 7, 0, []), (195, 4, 1, 0, 0, 0, []), (196, 4, 1, 1, 0, 0, []), (197, 4, 1, 2, 0, 0, []), (198, 25, 2, 16, 4, 0, [(0, 20, 12), (0, 1, 5)]), (201, 0, 1, 0, 0, 0, []), (202, 27, 0, 0, 0, 0, []), (203, 4, 1, 2, 0, 0, []), (204, 25, 2, 17, 4, 0, [(0, 20, 12), (0, 1, 6)]), (207, 0, 1, 0, 0, 0, []), (208, 27, 0, 0, 0, 0, []), (209, 4, 1, 2, 0, 0, []), (210, 25, 2, 16, 4, 0, [(0, 20, 12), (0, 1, 5)]), (213, 2, 1, 3, 0, 0, []), (214, 27, 0, 0, 0, 0, []), (215, 4, 1, 2, 0, 0, []), (216, 25, 2, 17, 4, 0, [(0, 20, 12), (0, 1, 6)]), (219, 2, 1, 3, 0, 0, []), (220, 27, 0, 0, 0, 0, []), (221, 40, 4, 6, 7, 0, []), (224, 4, 1, 0, 0, 0, []), (225, 4, 1, 0, 0, 0, []), (226, 25, 5, 1, 4, 0, [(0, 3, 3), (0, 1, 4)]), (229, 40, 5, 2, 7, 0, []), (232, 17, 244, 0, 148, 0, []), (235, 2, 2, 4, 0, 0, []), (237, 17, 244, 0, 148, 0, []), (240, 0, 1, 0, 0, 1, []), (241, 19, 245, 0, 149, 0, []), (244, 0, 1, 0, 0, 0, []), (245, 48, 0, 0, 0, 0, [])]
set_option maxRecDepth 20000 in
theorem qX5_cutf : f_all yX5_cut YX5_cut pX5_cutf :=
  ⟨f_aload_n (n := 2) (e_dx DX5_cut_0 0 rfl) rfl,
  f_getf (e_dx DX5_cut_0 1 rfl) fX5_54 rfl (by decide) (by decide) (by decide),
  f_iconst (e_dx DX5_cut_0 2 rfl) ⟨by decide, by decide⟩,
  f_isub (e_dx DX5_cut_0 3 rfl),
  f_istore_n (n := 3) (e_dx DX5_cut_0 4 rfl) rfl (by decide),
  f_iload_n (n := 3) (e_dx DX5_cut_0 5 rfl) rfl,
  f_iconst (e_dx DX5_cut_0 6 rfl) ⟨by decide, by decide⟩,
  f_icmp_lt (e_dx DX5_cut_0 7 rfl) rfl,
  f_aload_n (n := 2) (e_dx DX5_cut_0 8 rfl) rfl,
  f_getA (e_dx DX5_cut_0 9 rfl) fX5_59 rfl (by decide) (Nat.le_of_ble_eq_true rfl) rfl (by decide),
  f_iconst (e_dx DX5_cut_0 10 rfl) ⟨by decide, by decide⟩,
  f_iaload (e_dx DX5_cut_0 11 rfl),
  f_aload_n (n := 2) (e_dx DX5_cut_0 12 rfl) rfl,
  f_getA (e_dx DX5_cut_0 13 rfl) fX5_59 rfl (by decide) (Nat.le_of_ble_eq_true rfl) rfl (by decide),
  f_iload_n (n := 3) (e_dx DX5_cut_0 14 rfl) rfl,
  f_iaload (e_dx DX5_cut_0 15 rfl),
  f_icmp_ne (e_dx DX5_cut_0 16 rfl) rfl,
  f_aload_n (n := 2) (e_dx DX5_cut_0 17 rfl) rfl,
  f_getA (e_dx DX5_cut_0 18 rfl) fX5_62 rfl (by decide) (Nat.le_of_ble_eq_true rfl) rfl (by decide),
  f_iconst (e_dx DX5_cut_0 19 rfl) ⟨by decide, by decide⟩,
  f_iaload (e_dx DX5_cut_0 20 rfl),
  f_aload_n (n := 2) (e_dx DX5_cut_0 21 rfl) rfl,
  f_getA (e_dx DX5_cut_0 22 rfl) fX5_62 rfl (by decide) (Nat.le_of_ble_eq_true rfl) rfl (by decide),
  f_iload_n (n := 3) (e_dx DX5_cut_0 23 rfl) rfl,
  f_iaload (e_dx DX5_cut_0 24 rfl),
  f_icmp_ne (e_dx DX5_cut_0 25 rfl) rfl,
  f_iconst (e_dx DX5_cut_0 26 rfl) ⟨by decide, by decide⟩,
  ⟨(e_dx DX5_cut_0 27 rfl), rfl⟩,
  trivial,
  f_iconst (e_dx DX5_cut_0 28 rfl) ⟨by decide, by decide⟩,
  f_istore (e_dx DX5_cut_0 29 rfl) (by decide),
  trivial,
  f_iload (e_dx DX5_cut_0 30 rfl),
  f_iload_n (n := 3) (e_dx DX5_cut_0 31 rfl) rfl,
  f_icmp_gt (e_dx DX5_cut_0 32 rfl) rfl,
  f_iload (e_dx DX5_cut_0 33 rfl),
  f_if_eq (e_dx DX5_cut_0 34 rfl) rfl,
  f_iload (e_dx DX5_cut_0 35 rfl),
  f_iload_n (n := 3) (e_dx DX5_cut_0 36 rfl) rfl,
  f_icmp_ne (e_dx DX5_cut_0 37 rfl) rfl,
  trivial,
  f_iconst (e_dx DX5_cut_0 38 rfl) ⟨by decide, by decide⟩,
  f_g19 (e_dx DX5_cut_0 39 rfl) rfl,
  f_iconst (e_dx DX5_cut_1 0 rfl) ⟨by decide, by decide⟩,
  trivial,
  f_istore (e_dx DX5_cut_1 1 rfl) (by decide),
  f_aload_n (n := 1) (e_dx DX5_cut_1 2 rfl) rfl,
  f_aload_n (n := 2) (e_dx DX5_cut_1 3 rfl) rfl,
  f_getA (e_dx DX5_cut_1 4 rfl) fX5_59 rfl (by decide) (Nat.le_of_ble_eq_true rfl) rfl (by decide),
  f_iload (e_dx DX5_cut_1 5 rfl),
  f_iaload (e_dx DX5_cut_1 6 rfl),
  f_g14 (e_dx DX5_cut_1 7 rfl),
  f_aload_n (n := 2) (e_dx DX5_cut_1 8 rfl) rfl,
  f_getA (e_dx DX5_cut_1 9 rfl) fX5_62 rfl (by decide) (Nat.le_of_ble_eq_true rfl) rfl (by decide),
  f_iload (e_dx DX5_cut_1 10 rfl),
  f_iaload (e_dx DX5_cut_1 11 rfl),
  f_g14 (e_dx DX5_cut_1 12 rfl),
  f_iconst (e_dx DX5_cut_1 13 rfl) ⟨by decide, by decide⟩,
  x_callV (e_dx DX5_cut_1 14 rfl) mwX3_where vwX3_where cX5_65 rfl,
  f_iload (e_dx DX5_cut_1 15 rfl),
  f_icmp_eq (e_dx DX5_cut_1 16 rfl) rfl,
  f_iconst (e_dx DX5_cut_1 17 rfl) ⟨by decide, by decide⟩,
  ⟨(e_dx DX5_cut_1 18 rfl), rfl⟩,
  f_g8 (e_dx DX5_cut_1 19 rfl) ⟨by decide, by decide⟩,
  f_g19 (e_dx DX5_cut_1 20 rfl) rfl,
  f_iconst (e_dx DX5_cut_1 21 rfl) ⟨by decide, by decide⟩,
  f_istore (e_dx DX5_cut_1 22 rfl) (by decide),
  trivial,
  f_iload (e_dx DX5_cut_1 23 rfl),
  f_iload_n (n := 3) (e_dx DX5_cut_1 24 rfl) rfl,
  f_icmp_ge (e_dx DX5_cut_1 25 rfl) rfl,
  f_aload_n (n := 0) (e_dx DX5_cut_1 26 rfl) rfl,
  f_aload_n (n := 1) (e_dx DX5_cut_1 27 rfl) rfl,
  f_aload_n (n := 2) (e_dx DX5_cut_1 28 rfl) rfl,
  f_iload (e_dx DX5_cut_1 29 rfl),
  x_callV (e_dx DX5_cut_1 30 rfl) mwX5_isInside vwX5_isInside cX5_69 rfl,
  f_if_eq (e_dx DX5_cut_1 31 rfl) rfl,
  f_aload_n (n := 2) (e_dx DX5_cut_1 32 rfl) rfl,
  f_iload (e_dx DX5_cut_1 33 rfl),
  x_callS (e_dx DX5_cut_1 34 rfl) mwX5_meetsLater cX5_73 swX5_meetsLater rfl,
  f_if_eq (e_dx DX5_cut_1 35 rfl) rfl,
  f_iconst (e_dx DX5_cut_1 36 rfl) ⟨by decide, by decide⟩,
  ⟨(e_dx DX5_cut_1 37 rfl), rfl⟩,
  f_g8 (e_dx DX5_cut_1 38 rfl) ⟨by decide, by decide⟩,
  f_g19 (e_dx DX5_cut_1 39 rfl) rfl,
  f_aload_n (n := 0) (e_dx DX5_cut_2 0 rfl) rfl,
  f_aload_n (n := 2) (e_dx DX5_cut_2 1 rfl) rfl,
  f_iconst (e_dx DX5_cut_2 2 rfl) ⟨by decide, by decide⟩,
  f_iconst (e_dx DX5_cut_2 3 rfl) ⟨by decide, by decide⟩,
  x_callV (e_dx DX5_cut_2 4 rfl) mwX5_layCut vwX5_layCut cX5_77 rfl,
  f_aload_n (n := 0) (e_dx DX5_cut_2 5 rfl) rfl,
  f_aload_n (n := 1) (e_dx DX5_cut_2 6 rfl) rfl,
  f_aload_n (n := 2) (e_dx DX5_cut_2 7 rfl) rfl,
  f_getA (e_dx DX5_cut_2 8 rfl) fX5_59 rfl (by decide) (Nat.le_of_ble_eq_true rfl) rfl (by decide),
  f_iload_n (n := 3) (e_dx DX5_cut_2 9 rfl) rfl,
  f_iaload (e_dx DX5_cut_2 10 rfl),
  f_aload_n (n := 2) (e_dx DX5_cut_2 11 rfl) rfl,
  f_getA (e_dx DX5_cut_2 12 rfl) fX5_62 rfl (by decide) (Nat.le_of_ble_eq_true rfl) rfl (by decide),
  f_iload_n (n := 3) (e_dx DX5_cut_2 13 rfl) rfl,
  f_iaload (e_dx DX5_cut_2 14 rfl),
  f_aload_n (n := 2) (e_dx DX5_cut_2 15 rfl) rfl,
  f_getA (e_dx DX5_cut_2 16 rfl) fX5_59 rfl (by decide) (Nat.le_of_ble_eq_true rfl) rfl (by decide),
  f_iconst (e_dx DX5_cut_2 17 rfl) ⟨by decide, by decide⟩,
  f_iaload (e_dx DX5_cut_2 18 rfl),
  f_aload_n (n := 2) (e_dx DX5_cut_2 19 rfl) rfl,
  f_getA (e_dx DX5_cut_2 20 rfl) fX5_62 rfl (by decide) (Nat.le_of_ble_eq_true rfl) rfl (by decide),
  f_iconst (e_dx DX5_cut_2 21 rfl) ⟨by decide, by decide⟩,
  f_iaload (e_dx DX5_cut_2 22 rfl),
  x_callV (e_dx DX5_cut_2 23 rfl) mwX5_layBorder vwX5_layBorder cX5_81 rfl,
  f_aload_n (n := 0) (e_dx DX5_cut_2 24 rfl) rfl,
  f_aload_n (n := 0) (e_dx DX5_cut_2 25 rfl) rfl,
  f_getA (e_dx DX5_cut_2 26 rfl) fX5_12 rfl (by decide) (Nat.le_of_ble_eq_true rfl) rfl (by decide),
  x_callV (e_dx DX5_cut_2 27 rfl) mwX5_close vwX5_close cX5_85 rfl,
  f_istore (e_dx DX5_cut_2 28 rfl) (by decide),
  f_aload_n (n := 0) (e_dx DX5_cut_2 29 rfl) rfl,
  f_aload_n (n := 2) (e_dx DX5_cut_2 30 rfl) rfl,
  f_iload_n (n := 3) (e_dx DX5_cut_2 31 rfl) rfl,
  f_iconst (e_dx DX5_cut_2 32 rfl) ⟨by decide, by decide⟩,
  x_callV (e_dx DX5_cut_2 33 rfl) mwX5_layCut vwX5_layCut cX5_77 rfl,
  f_aload_n (n := 0) (e_dx DX5_cut_2 34 rfl) rfl,
  f_aload_n (n := 1) (e_dx DX5_cut_2 35 rfl) rfl,
  f_aload_n (n := 2) (e_dx DX5_cut_2 36 rfl) rfl,
  f_getA (e_dx DX5_cut_2 37 rfl) fX5_59 rfl (by decide) (Nat.le_of_ble_eq_true rfl) rfl (by decide),
  f_iconst (e_dx DX5_cut_2 38 rfl) ⟨by decide, by decide⟩,
  f_iaload (e_dx DX5_cut_2 39 rfl),
  f_aload_n (n := 2) (e_dx DX5_cut_3 0 rfl) rfl,
  f_getA (e_dx DX5_cut_3 1 rfl) fX5_62 rfl (by decide) (Nat.le_of_ble_eq_true rfl) rfl (by decide),
  f_iconst (e_dx DX5_cut_3 2 rfl) ⟨by decide, by decide⟩,
  f_iaload (e_dx DX5_cut_3 3 rfl),
  f_aload_n (n := 2) (e_dx DX5_cut_3 4 rfl) rfl,
  f_getA (e_dx DX5_cut_3 5 rfl) fX5_59 rfl (by decide) (Nat.le_of_ble_eq_true rfl) rfl (by decide),
  f_iload_n (n := 3) (e_dx DX5_cut_3 6 rfl) rfl,
  f_iaload (e_dx DX5_cut_3 7 rfl),
  f_aload_n (n := 2) (e_dx DX5_cut_3 8 rfl) rfl,
  f_getA (e_dx DX5_cut_3 9 rfl) fX5_62 rfl (by decide) (Nat.le_of_ble_eq_true rfl) rfl (by decide),
  f_iload_n (n := 3) (e_dx DX5_cut_3 10 rfl) rfl,
  f_iaload (e_dx DX5_cut_3 11 rfl),
  x_callV (e_dx DX5_cut_3 12 rfl) mwX5_layBorder vwX5_layBorder cX5_81 rfl,
  f_aload_n (n := 0) (e_dx DX5_cut_3 13 rfl) rfl,
  f_aload_n (n := 0) (e_dx DX5_cut_3 14 rfl) rfl,
  f_getA (e_dx DX5_cut_3 15 rfl) fX5_18 rfl (by decide) (Nat.le_of_ble_eq_true rfl) rfl (by decide),
  x_callV (e_dx DX5_cut_3 16 rfl) mwX5_close vwX5_close cX5_85 rfl,
  f_if_eq (e_dx DX5_cut_3 17 rfl) rfl,
  f_iload (e_dx DX5_cut_3 18 rfl),
  f_if_eq (e_dx DX5_cut_3 19 rfl) rfl,
  f_iconst (e_dx DX5_cut_3 20 rfl) ⟨by decide, by decide⟩,
  f_g19 (e_dx DX5_cut_3 21 rfl) rfl,
  f_iconst (e_dx DX5_cut_3 22 rfl) ⟨by decide, by decide⟩,
  ⟨(e_dx DX5_cut_3 23 rfl), rfl⟩, trivial⟩
def lX5_cut (c_X3_where : Nat → Int → Int → Int → e_M → (Int → Prop) → Prop) (c_X5_isInside : Nat → Nat → Int → e_M → (Int → Prop) → Prop) (c_X5_meetsLater : Nat → Int → e_M → (Int → Prop) → Prop) (c_X5_layCut : Nat → Int → Int → e_M → (e_M → Prop) → Prop) (c_X5_layBorder : Nat → Int → Int → Int → Int → e_M → (e_M → Prop) → Prop) (c_X5_close : Nat → e_M → (Int → e_M → Prop) → Prop) : List (Nat × f_Wt) := [(0, f_wm [(3, 3, 3), (2, 0, 0), (2, 0, 0), (1, 0, 0)] (fun ar M R => c_X3_where (f_va (f_nth ar 0)) (f_vi (f_nth ar 1)) (f_vi (f_nth ar 2)) (f_vi (f_nth ar 3)) M (fun r => R (some (.inl r)) M))), (1, f_wm [(4436, 5, 12), (3, 3, 3), (3, 2, 19), (1, 0, 0)] (fun ar M R => c_X5_isInside (f_va (f_nth ar 1)) (f_va (f_nth ar 2)) (f_vi (f_nth ar 3)) M (fun r => R (some (.inl r)) M))), (2, f_wm [(3, 2, 19), (1, 0, 0)] (fun ar M R => c_X5_meetsLater (f_va (f_nth ar 0)) (f_vi (f_nth ar 1)) M (fun r => R (some (.inl r)) M))), (3, f_wm [(4436, 5, 12), (3, 2, 19), (1, 0, 0), (1, 0, 0)] (fun ar M R => c_X5_layCut (f_va (f_nth ar 1)) (f_vi (f_nth ar 2)) (f_vi (f_nth ar 3)) M (fun M => R none M))), (4, f_wm [(4436, 5, 12), (3, 3, 3), (1, 0, 0), (1, 0, 0), (1, 0, 0), (1, 0, 0)] (fun ar M R => c_X5_layBorder (f_va (f_nth ar 1)) (f_vi (f_nth ar 2)) (f_vi (f_nth ar 3)) (f_vi (f_nth ar 4)) (f_vi (f_nth ar 5)) M (fun M => R none M))), (5, f_wm [(4436, 5, 12), (3, 3, 3)] (fun ar M R => c_X5_close (f_va (f_nth ar 1)) M (fun r M => R (some (.inl r)) M)))]
set_option maxRecDepth 20000 in
theorem BX5_cut_44 {sh : Nat → Nat × Nat} {t : Nat} {rm : Nat × Nat × Nat} {cs : Nat × Nat} {R : f_Rt} {c_X3_where : Nat → Int → Int → Int → e_M → (Int → Prop) → Prop} {c_X5_isInside : Nat → Nat → Int → e_M → (Int → Prop) → Prop} {c_X5_meetsLater : Nat → Int → e_M → (Int → Prop) → Prop} {c_X5_layCut : Nat → Int → Int → e_M → (e_M → Prop) → Prop} {c_X5_layBorder : Nat → Int → Int → Int → Int → e_M → (e_M → Prop) → Prop} {c_X5_close : Nat → e_M → (Int → e_M → Prop) → Prop} {k47 : Nat → Nat → Int → Int → e_M → Prop} {a1 : Nat} {a2 : Nat} {x3 : Int} {M : e_M} (C : f_Hy sh t yX5_cut rm cs 7 (lX5_cut c_X3_where c_X5_isInside c_X5_meetsLater c_X5_layCut c_X5_layBorder c_X5_close) R) (h47 : ∀ (a1 : Nat) (a2 : Nat) (x3 : Int) (x4 : Int) (M : e_M), k47 a1 a2 x3 x4 M → f_E sh t YX5_cut rm cs (f_Q sh t R) 47 [.inr (.inr (.inl (5, 12, 4426))), .inr (.inr (.inl (3, 3, a1))), .inr (.inr (.inl (2, 19, a2))), .inl x3, .inl x4, .inr (.inr (.inr ()))] [] M) (h : VX5_cut_44 c_X3_where c_X5_isInside c_X5_meetsLater c_X5_layCut c_X5_layBorder c_X5_close k47 (fun r M => R (some (.inl r)) M) a1 a2 x3 M) : f_E sh t YX5_cut rm cs (f_Q sh t R) 44 [.inr (.inr (.inl (5, 12, 4426))), .inr (.inr (.inl (3, 3, a1))), .inr (.inr (.inl (2, 19, a2))), .inl x3, .inr (.inr (.inr ())), .inr (.inr (.inr ()))] [] M :=
  f_go (KC := f_kc [(47, f_pl [(4436, 5, 12), (3, 3, 3), (3, 2, 19), (1, 0, 0), (1, 0, 0), (0, 0, 0)] [] (fun ls st M => k47 (f_va (f_nth ls 1)) (f_va (f_nth ls 2)) (f_vi (f_nth ls 3)) (f_vi (f_nth ls 4)) M))]) C qX5_cutf (f_kc_cons (f_pl_ok rfl (fun ls st M h => h47 _ _ _ _ M h)) f_kc_nil) 151 29 h
set_option maxRecDepth 20000 in
theorem BX5_cut_47 {sh : Nat → Nat × Nat} {t : Nat} {rm : Nat × Nat × Nat} {cs : Nat × Nat} {R : f_Rt} {c_X3_where : Nat → Int → Int → Int → e_M → (Int → Prop) → Prop} {c_X5_isInside : Nat → Nat → Int → e_M → (Int → Prop) → Prop} {c_X5_meetsLater : Nat → Int → e_M → (Int → Prop) → Prop} {c_X5_layCut : Nat → Int → Int → e_M → (e_M → Prop) → Prop} {c_X5_layBorder : Nat → Int → Int → Int → Int → e_M → (e_M → Prop) → Prop} {c_X5_close : Nat → e_M → (Int → e_M → Prop) → Prop} {k108 : Nat → Nat → Int → Int → e_M → Prop} {k64 : Nat → Nat → Int → Int → e_M → Prop} {k69 : Nat → Nat → Int → Int → Int → e_M → Prop} {a1 : Nat} {a2 : Nat} {x3 : Int} {x4 : Int} {M : e_M} (C : f_Hy sh t yX5_cut rm cs 7 (lX5_cut c_X3_where c_X5_isInside c_X5_meetsLater c_X5_layCut c_X5_layBorder c_X5_close) R) (h108 : ∀ (a1 : Nat) (a2 : Nat) (x3 : Int) (x4 : Int) (M : e_M), k108 a1 a2 x3 x4 M → f_E sh t YX5_cut rm cs (f_Q sh t R) 108 [.inr (.inr (.inl (5, 12, 4426))), .inr (.inr (.inl (3, 3, a1))), .inr (.inr (.inl (2, 19, a2))), .inl x3, .inl x4, .inr (.inr (.inr ()))] [] M) (h64 : ∀ (a1 : Nat) (a2 : Nat) (x3 : Int) (x4 : Int) (M : e_M), k64 a1 a2 x3 x4 M → f_E sh t YX5_cut rm cs (f_Q sh t R) 64 [.inr (.inr (.inl (5, 12, 4426))), .inr (.inr (.inl (3, 3, a1))), .inr (.inr (.inl (2, 19, a2))), .inl x3, .inl x4, .inr (.inr (.inr ()))] [] M) (h69 : ∀ (a1 : Nat) (a2 : Nat) (x3 : Int) (x4 : Int) (xs0 : Int) (M : e_M), k69 a1 a2 x3 x4 xs0 M → f_E sh t YX5_cut rm cs (f_Q sh t R) 69 [.inr (.inr (.inl (5, 12, 4426))), .inr (.inr (.inl (3, 3, a1))), .inr (.inr (.inl (2, 19, a2))), .inl x3, .inl x4, .inr (.inr (.inr ()))] [.inl xs0] M) (h : VX5_cut_47 c_X3_where c_X5_isInside c_X5_meetsLater c_X5_layCut c_X5_layBorder c_X5_close k108 k64 k69 (fun r M => R (some (.inl r)) M) a1 a2 x3 x4 M) : f_E sh t YX5_cut rm cs (f_Q sh t R) 47 [.inr (.inr (.inl (5, 12, 4426))), .inr (.inr (.inl (3, 3, a1))), .inr (.inr (.inl (2, 19, a2))), .inl x3, .inl x4, .inr (.inr (.inr ()))] [] M :=
  f_go (KC := f_kc [(108, f_pl [(4436, 5, 12), (3, 3, 3), (3, 2, 19), (1, 0, 0), (1, 0, 0), (0, 0, 0)] [] (fun ls st M => k108 (f_va (f_nth ls 1)) (f_va (f_nth ls 2)) (f_vi (f_nth ls 3)) (f_vi (f_nth ls 4)) M)), (64, f_pl [(4436, 5, 12), (3, 3, 3), (3, 2, 19), (1, 0, 0), (1, 0, 0), (0, 0, 0)] [] (fun ls st M => k64 (f_va (f_nth ls 1)) (f_va (f_nth ls 2)) (f_vi (f_nth ls 3)) (f_vi (f_nth ls 4)) M)), (69, f_pl [(4436, 5, 12), (3, 3, 3), (3, 2, 19), (1, 0, 0), (1, 0, 0), (0, 0, 0)] [(1, 0, 0)] (fun ls st M => k69 (f_va (f_nth ls 1)) (f_va (f_nth ls 2)) (f_vi (f_nth ls 3)) (f_vi (f_nth ls 4)) (f_vi (f_nth st 0)) M))]) C qX5_cutf (f_kc_cons (f_pl_ok rfl (fun ls st M h => h108 _ _ _ _ M h)) (f_kc_cons (f_pl_ok rfl (fun ls st M h => h64 _ _ _ _ M h)) (f_kc_cons (f_pl_ok rfl (fun ls st M h => h69 _ _ _ _ _ M h)) f_kc_nil))) 151 32 h
set_option maxRecDepth 20000 in
theorem BX5_cut_64 {sh : Nat → Nat × Nat} {t : Nat} {rm : Nat × Nat × Nat} {cs : Nat × Nat} {R : f_Rt} {c_X3_where : Nat → Int → Int → Int → e_M → (Int → Prop) → Prop} {c_X5_isInside : Nat → Nat → Int → e_M → (Int → Prop) → Prop} {c_X5_meetsLater : Nat → Int → e_M → (Int → Prop) → Prop} {c_X5_layCut : Nat → Int → Int → e_M → (e_M → Prop) → Prop} {c_X5_layBorder : Nat → Int → Int → Int → Int → e_M → (e_M → Prop) → Prop} {c_X5_close : Nat → e_M → (Int → e_M → Prop) → Prop} {k69 : Nat → Nat → Int → Int → Int → e_M → Prop} {a1 : Nat} {a2 : Nat} {x3 : Int} {x4 : Int} {M : e_M} (C : f_Hy sh t yX5_cut rm cs 7 (lX5_cut c_X3_where c_X5_isInside c_X5_meetsLater c_X5_layCut c_X5_layBorder c_X5_close) R) (h69 : ∀ (a1 : Nat) (a2 : Nat) (x3 : Int) (x4 : Int) (xs0 : Int) (M : e_M), k69 a1 a2 x3 x4 xs0 M → f_E sh t YX5_cut rm cs (f_Q sh t R) 69 [.inr (.inr (.inl (5, 12, 4426))), .inr (.inr (.inl (3, 3, a1))), .inr (.inr (.inl (2, 19, a2))), .inl x3, .inl x4, .inr (.inr (.inr ()))] [.inl xs0] M) (h : VX5_cut_64 c_X3_where c_X5_isInside c_X5_meetsLater c_X5_layCut c_X5_layBorder c_X5_close k69 (fun r M => R (some (.inl r)) M) a1 a2 x3 x4 M) : f_E sh t YX5_cut rm cs (f_Q sh t R) 64 [.inr (.inr (.inl (5, 12, 4426))), .inr (.inr (.inl (3, 3, a1))), .inr (.inr (.inl (2, 19, a2))), .inl x3, .inl x4, .inr (.inr (.inr ()))] [] M :=
  f_go (KC := f_kc [(69, f_pl [(4436, 5, 12), (3, 3, 3), (3, 2, 19), (1, 0, 0), (1, 0, 0), (0, 0, 0)] [(1, 0, 0)] (fun ls st M => k69 (f_va (f_nth ls 1)) (f_va (f_nth ls 2)) (f_vi (f_nth ls 3)) (f_vi (f_nth ls 4)) (f_vi (f_nth st 0)) M))]) C qX5_cutf (f_kc_cons (f_pl_ok rfl (fun ls st M h => h69 _ _ _ _ _ M h)) f_kc_nil) 151 41 h
set_option maxRecDepth 20000 in
theorem BX5_cut_69 {sh : Nat → Nat × Nat} {t : Nat} {rm : Nat × Nat × Nat} {cs : Nat × Nat} {R : f_Rt} {c_X3_where : Nat → Int → Int → Int → e_M → (Int → Prop) → Prop} {c_X5_isInside : Nat → Nat → Int → e_M → (Int → Prop) → Prop} {c_X5_meetsLater : Nat → Int → e_M → (Int → Prop) → Prop} {c_X5_layCut : Nat → Int → Int → e_M → (e_M → Prop) → Prop} {c_X5_layBorder : Nat → Int → Int → Int → Int → e_M → (e_M → Prop) → Prop} {c_X5_close : Nat → e_M → (Int → e_M → Prop) → Prop} {k47 : Nat → Nat → Int → Int → e_M → Prop} {a1 : Nat} {a2 : Nat} {x3 : Int} {x4 : Int} {xs0 : Int} {M : e_M} (C : f_Hy sh t yX5_cut rm cs 7 (lX5_cut c_X3_where c_X5_isInside c_X5_meetsLater c_X5_layCut c_X5_layBorder c_X5_close) R) (h47 : ∀ (a1 : Nat) (a2 : Nat) (x3 : Int) (x4 : Int) (M : e_M), k47 a1 a2 x3 x4 M → f_E sh t YX5_cut rm cs (f_Q sh t R) 47 [.inr (.inr (.inl (5, 12, 4426))), .inr (.inr (.inl (3, 3, a1))), .inr (.inr (.inl (2, 19, a2))), .inl x3, .inl x4, .inr (.inr (.inr ()))] [] M) (h : VX5_cut_69 c_X3_where c_X5_isInside c_X5_meetsLater c_X5_layCut c_X5_layBorder c_X5_close k47 (fun r M => R (some (.inl r)) M) a1 a2 x3 x4 xs0 M) : f_E sh t YX5_cut rm cs (f_Q sh t R) 69 [.inr (.inr (.inl (5, 12, 4426))), .inr (.inr (.inl (3, 3, a1))), .inr (.inr (.inl (2, 19, a2))), .inl x3, .inl x4, .inr (.inr (.inr ()))] [.inl xs0] M :=
  f_go (KC := f_kc [(47, f_pl [(4436, 5, 12), (3, 3, 3), (3, 2, 19), (1, 0, 0), (1, 0, 0), (0, 0, 0)] [] (fun ls st M => k47 (f_va (f_nth ls 1)) (f_va (f_nth ls 2)) (f_vi (f_nth ls 3)) (f_vi (f_nth ls 4)) M))]) C qX5_cutf (f_kc_cons (f_pl_ok rfl (fun ls st M h => h47 _ _ _ _ M h)) f_kc_nil) 151 45 h
set_option maxRecDepth 20000 in
theorem BX5_cut_108 {sh : Nat → Nat × Nat} {t : Nat} {rm : Nat × Nat × Nat} {cs : Nat × Nat} {R : f_Rt} {c_X3_where : Nat → Int → Int → Int → e_M → (Int → Prop) → Prop} {c_X5_isInside : Nat → Nat → Int → e_M → (Int → Prop) → Prop} {c_X5_meetsLater : Nat → Int → e_M → (Int → Prop) → Prop} {c_X5_layCut : Nat → Int → Int → e_M → (e_M → Prop) → Prop} {c_X5_layBorder : Nat → Int → Int → Int → Int → e_M → (e_M → Prop) → Prop} {c_X5_close : Nat → e_M → (Int → e_M → Prop) → Prop} {k108 : Nat → Nat → Int → Int → e_M → Prop} {a1 : Nat} {a2 : Nat} {x3 : Int} {x4 : Int} {M : e_M} (C : f_Hy sh t yX5_cut rm cs 7 (lX5_cut c_X3_where c_X5_isInside c_X5_meetsLater c_X5_layCut c_X5_layBorder c_X5_close) R) (h108 : ∀ (a1 : Nat) (a2 : Nat) (x3 : Int) (x4 : Int) (M : e_M), k108 a1 a2 x3 x4 M → f_E sh t YX5_cut rm cs (f_Q sh t R) 108 [.inr (.inr (.inl (5, 12, 4426))), .inr (.inr (.inl (3, 3, a1))), .inr (.inr (.inl (2, 19, a2))), .inl x3, .inl x4, .inr (.inr (.inr ()))] [] M) (h : VX5_cut_108 c_X3_where c_X5_isInside c_X5_meetsLater c_X5_layCut c_X5_layBorder c_X5_close k108 (fun r M => R (some (.inl r)) M) a1 a2 x3 x4 M) : f_E sh t YX5_cut rm cs (f_Q sh t R) 108 [.inr (.inr (.inl (5, 12, 4426))), .inr (.inr (.inl (3, 3, a1))), .inr (.inr (.inl (2, 19, a2))), .inl x3, .inl x4, .inr (.inr (.inr ()))] [] M :=
  f_go (KC := f_kc [(108, f_pl [(4436, 5, 12), (3, 3, 3), (3, 2, 19), (1, 0, 0), (1, 0, 0), (0, 0, 0)] [] (fun ls st M => k108 (f_va (f_nth ls 1)) (f_va (f_nth ls 2)) (f_vi (f_nth ls 3)) (f_vi (f_nth ls 4)) M))]) C qX5_cutf (f_kc_cons (f_pl_ok rfl (fun ls st M h => h108 _ _ _ _ M h)) f_kc_nil) 151 68 h
set_option maxRecDepth 20000 in
theorem BX5_cut {sh : Nat → Nat × Nat} {t : Nat} {rm : Nat × Nat × Nat} {cs : Nat × Nat} {R : f_Rt} {c_X3_where : Nat → Int → Int → Int → e_M → (Int → Prop) → Prop} {c_X5_isInside : Nat → Nat → Int → e_M → (Int → Prop) → Prop} {c_X5_meetsLater : Nat → Int → e_M → (Int → Prop) → Prop} {c_X5_layCut : Nat → Int → Int → e_M → (e_M → Prop) → Prop} {c_X5_layBorder : Nat → Int → Int → Int → Int → e_M → (e_M → Prop) → Prop} {c_X5_close : Nat → e_M → (Int → e_M → Prop) → Prop} {k44 : Nat → Nat → Int → e_M → Prop} {a1 : Nat} {a2 : Nat} {M : e_M} (C : f_Hy sh t yX5_cut rm cs 7 (lX5_cut c_X3_where c_X5_isInside c_X5_meetsLater c_X5_layCut c_X5_layBorder c_X5_close) R) (h44 : ∀ (a1 : Nat) (a2 : Nat) (x3 : Int) (M : e_M), k44 a1 a2 x3 M → f_E sh t YX5_cut rm cs (f_Q sh t R) 44 [.inr (.inr (.inl (5, 12, 4426))), .inr (.inr (.inl (3, 3, a1))), .inr (.inr (.inl (2, 19, a2))), .inl x3, .inr (.inr (.inr ())), .inr (.inr (.inr ()))] [] M) (h : VX5_cut c_X3_where c_X5_isInside c_X5_meetsLater c_X5_layCut c_X5_layBorder c_X5_close k44 (fun r M => R (some (.inl r)) M) a1 a2 M) : f_E sh t YX5_cut rm cs (f_Q sh t R) 0 [.inr (.inr (.inl (5, 12, 4426))), .inr (.inr (.inl (3, 3, a1))), .inr (.inr (.inl (2, 19, a2))), .inr (.inr (.inr ())), .inr (.inr (.inr ())), .inr (.inr (.inr ()))] [] M :=
  f_go (KC := f_kc [(44, f_pl [(4436, 5, 12), (3, 3, 3), (3, 2, 19), (1, 0, 0), (0, 0, 0), (0, 0, 0)] [] (fun ls st M => k44 (f_va (f_nth ls 1)) (f_va (f_nth ls 2)) (f_vi (f_nth ls 3)) M))]) C qX5_cutf (f_kc_cons (f_pl_ok rfl (fun ls st M h => h44 _ _ _ M h)) f_kc_nil) 151 0 h
def WX5_cut_108 (Q : Int → e_M → Prop) : Nat → Nat → Nat → Int → Int → e_M → Prop
  | 0, _, _, _, _, _ => False
  | n + 1, a1, a2, x3, x4, M =>
    VX5_cut_108 WX3_where WX5_isInside WX5_meetsLater WX5_layCut WX5_layBorder WX5_close (WX5_cut_108 Q n) Q a1 a2 x3 x4 M
def WX5_cut_69 (H47 : Nat → Nat → Int → Int → e_M → Prop) (Q : Int → e_M → Prop) (a1 : Nat) (a2 : Nat) (x3 : Int) (x4 : Int) (xs0 : Int) (M : e_M) : Prop :=
  VX5_cut_69 WX3_where WX5_isInside WX5_meetsLater WX5_layCut WX5_layBorder WX5_close H47 Q a1 a2 x3 x4 xs0 M
def WX5_cut_64 (H47 : Nat → Nat → Int → Int → e_M → Prop) (Q : Int → e_M → Prop) (a1 : Nat) (a2 : Nat) (x3 : Int) (x4 : Int) (M : e_M) : Prop :=
  VX5_cut_64 WX3_where WX5_isInside WX5_meetsLater WX5_layCut WX5_layBorder WX5_close (WX5_cut_69 H47 Q) Q a1 a2 x3 x4 M
def WX5_cut_47 (Q : Int → e_M → Prop) : Nat → Nat → Nat → Int → Int → e_M → Prop
  | 0, _, _, _, _, _ => False
  | n + 1, a1, a2, x3, x4, M =>
    VX5_cut_47 WX3_where WX5_isInside WX5_meetsLater WX5_layCut WX5_layBorder WX5_close (fun a1 a2 x3 x4 M => ∃ j, WX5_cut_108 Q j a1 a2 x3 x4 M) (WX5_cut_64 (WX5_cut_47 Q n) Q) (WX5_cut_69 (WX5_cut_47 Q n) Q) Q a1 a2 x3 x4 M
def WX5_cut_44 (Q : Int → e_M → Prop) (a1 : Nat) (a2 : Nat) (x3 : Int) (M : e_M) : Prop :=
  VX5_cut_44 WX3_where WX5_isInside WX5_meetsLater WX5_layCut WX5_layBorder WX5_close (fun a1 a2 x3 x4 M => ∃ j, WX5_cut_47 Q j a1 a2 x3 x4 M) Q a1 a2 x3 M
def WX5_cut (a1 : Nat) (a2 : Nat) (M : e_M) (Q : Int → e_M → Prop) : Prop :=
  VX5_cut WX3_where WX5_isInside WX5_meetsLater WX5_layCut WX5_layBorder WX5_close (WX5_cut_44 Q) Q a1 a2 M
theorem PX5_cut_108 {sh : Nat → Nat × Nat} {t : Nat} {rm : Nat × Nat × Nat} {cs : Nat × Nat} {R : f_Rt} (C : f_Hy sh t yX5_cut rm cs 7 (lX5_cut WX3_where WX5_isInside WX5_meetsLater WX5_layCut WX5_layBorder WX5_close) R) : ∀ (n : Nat) (a1 : Nat) (a2 : Nat) (x3 : Int) (x4 : Int) (M : e_M), WX5_cut_108 (fun r M => R (some (.inl r)) M) n a1 a2 x3 x4 M → f_E sh t YX5_cut rm cs (f_Q sh t R) 108 [.inr (.inr (.inl (5, 12, 4426))), .inr (.inr (.inl (3, 3, a1))), .inr (.inr (.inl (2, 19, a2))), .inl x3, .inl x4, .inr (.inr (.inr ()))] [] M := by
  intro n
  induction n with
  | zero => intro a1 a2 x3 x4 M h; exact h.elim
  | succ n ih => intro a1 a2 x3 x4 M h; exact BX5_cut_108 C ih h
theorem PX5_cut_69 {sh : Nat → Nat × Nat} {t : Nat} {rm : Nat × Nat × Nat} {cs : Nat × Nat} {R : f_Rt} {H47 : Nat → Nat → Int → Int → e_M → Prop} {a1 : Nat} {a2 : Nat} {x3 : Int} {x4 : Int} {xs0 : Int} {M : e_M} (C : f_Hy sh t yX5_cut rm cs 7 (lX5_cut WX3_where WX5_isInside WX5_meetsLater WX5_layCut WX5_layBorder WX5_close) R) (g47 : ∀ (a1 : Nat) (a2 : Nat) (x3 : Int) (x4 : Int) (M : e_M), H47 a1 a2 x3 x4 M → f_E sh t YX5_cut rm cs (f_Q sh t R) 47 [.inr (.inr (.inl (5, 12, 4426))), .inr (.inr (.inl (3, 3, a1))), .inr (.inr (.inl (2, 19, a2))), .inl x3, .inl x4, .inr (.inr (.inr ()))] [] M) (h : WX5_cut_69 H47 (fun r M => R (some (.inl r)) M) a1 a2 x3 x4 xs0 M) : f_E sh t YX5_cut rm cs (f_Q sh t R) 69 [.inr (.inr (.inl (5, 12, 4426))), .inr (.inr (.inl (3, 3, a1))), .inr (.inr (.inl (2, 19, a2))), .inl x3, .inl x4, .inr (.inr (.inr ()))] [.inl xs0] M :=
  BX5_cut_69 C g47 h
theorem PX5_cut_64 {sh : Nat → Nat × Nat} {t : Nat} {rm : Nat × Nat × Nat} {cs : Nat × Nat} {R : f_Rt} {H47 : Nat → Nat → Int → Int → e_M → Prop} {a1 : Nat} {a2 : Nat} {x3 : Int} {x4 : Int} {M : e_M} (C : f_Hy sh t yX5_cut rm cs 7 (lX5_cut WX3_where WX5_isInside WX5_meetsLater WX5_layCut WX5_layBorder WX5_close) R) (g47 : ∀ (a1 : Nat) (a2 : Nat) (x3 : Int) (x4 : Int) (M : e_M), H47 a1 a2 x3 x4 M → f_E sh t YX5_cut rm cs (f_Q sh t R) 47 [.inr (.inr (.inl (5, 12, 4426))), .inr (.inr (.inl (3, 3, a1))), .inr (.inr (.inl (2, 19, a2))), .inl x3, .inl x4, .inr (.inr (.inr ()))] [] M) (h : WX5_cut_64 H47 (fun r M => R (some (.inl r)) M) a1 a2 x3 x4 M) : f_E sh t YX5_cut rm cs (f_Q sh t R) 64 [.inr (.inr (.inl (5, 12, 4426))), .inr (.inr (.inl (3, 3, a1))), .inr (.inr (.inl (2, 19, a2))), .inl x3, .inl x4, .inr (.inr (.inr ()))] [] M :=
  BX5_cut_64 C (fun a1 a2 x3 x4 xs0 M h => PX5_cut_69 C g47 h) h
theorem PX5_cut_47 {sh : Nat → Nat × Nat} {t : Nat} {rm : Nat × Nat × Nat} {cs : Nat × Nat} {R : f_Rt} (C : f_Hy sh t yX5_cut rm cs 7 (lX5_cut WX3_where WX5_isInside WX5_meetsLater WX5_layCut WX5_layBorder WX5_close) R) : ∀ (n : Nat) (a1 : Nat) (a2 : Nat) (x3 : Int) (x4 : Int) (M : e_M), WX5_cut_47 (fun r M => R (some (.inl r)) M) n a1 a2 x3 x4 M → f_E sh t YX5_cut rm cs (f_Q sh t R) 47 [.inr (.inr (.inl (5, 12, 4426))), .inr (.inr (.inl (3, 3, a1))), .inr (.inr (.inl (2, 19, a2))), .inl x3, .inl x4, .inr (.inr (.inr ()))] [] M := by
  intro n
  induction n with
  | zero => intro a1 a2 x3 x4 M h; exact h.elim
  | succ n ih => intro a1 a2 x3 x4 M h; exact BX5_cut_47 C (fun a1 a2 x3 x4 M ⟨j, h⟩ => PX5_cut_108 C j _ _ _ _ _ h) (fun a1 a2 x3 x4 M h => PX5_cut_64 C ih h) (fun a1 a2 x3 x4 xs0 M h => PX5_cut_69 C ih h) h
theorem PX5_cut_44 {sh : Nat → Nat × Nat} {t : Nat} {rm : Nat × Nat × Nat} {cs : Nat × Nat} {R : f_Rt} {a1 : Nat} {a2 : Nat} {x3 : Int} {M : e_M} (C : f_Hy sh t yX5_cut rm cs 7 (lX5_cut WX3_where WX5_isInside WX5_meetsLater WX5_layCut WX5_layBorder WX5_close) R) (h : WX5_cut_44 (fun r M => R (some (.inl r)) M) a1 a2 x3 M) : f_E sh t YX5_cut rm cs (f_Q sh t R) 44 [.inr (.inr (.inl (5, 12, 4426))), .inr (.inr (.inl (3, 3, a1))), .inr (.inr (.inl (2, 19, a2))), .inl x3, .inr (.inr (.inr ())), .inr (.inr (.inr ()))] [] M :=
  BX5_cut_44 C (fun a1 a2 x3 x4 M ⟨j, h⟩ => PX5_cut_47 C j _ _ _ _ _ h) h
theorem PX5_cut {sh : Nat → Nat × Nat} {t : Nat} {rm : Nat × Nat × Nat} {cs : Nat × Nat} {R : f_Rt} {a1 : Nat} {a2 : Nat} {M : e_M} (C : f_Hy sh t yX5_cut rm cs 7 (lX5_cut WX3_where WX5_isInside WX5_meetsLater WX5_layCut WX5_layBorder WX5_close) R) (h : WX5_cut a1 a2 M (fun r M => R (some (.inl r)) M)) : f_E sh t YX5_cut rm cs (f_Q sh t R) 0 [.inr (.inr (.inl (5, 12, 4426))), .inr (.inr (.inl (3, 3, a1))), .inr (.inr (.inl (2, 19, a2))), .inr (.inr (.inr ())), .inr (.inr (.inr ())), .inr (.inr (.inr ()))] [] M :=
  BX5_cut C (fun a1 a2 x3 M h => PX5_cut_44 C h) h
def wX5_cut : f_Wt := f_wm [(4436, 5, 12), (3, 3, 3), (3, 2, 19)] (fun ar M R => WX5_cut (f_va (f_nth ar 1)) (f_va (f_nth ar 2)) M (fun r M => R (some (.inl r)) M))
theorem TX5_cut {sh : Nat → Nat × Nat} {t : Nat} : f_Mt sh t YX5_cut 7 (wX5_cut) :=
  f_Mt_of (k := 3) (Nat.le_of_ble_eq_true rfl) rfl rfl (fun ar M R rm cs h1 h2 h3 hX h => PX5_cut ⟨Nat.le_of_ble_eq_true rfl, h1, h2, h3, ⟨(f_Mt.up (Nat.le_of_ble_eq_true rfl) TX3_where), (f_Mt.up (Nat.le_of_ble_eq_true rfl) TX5_isInside), (f_Mt.up (Nat.le_of_ble_eq_true rfl) TX5_meetsLater), (f_Mt.up (Nat.le_of_ble_eq_true rfl) TX5_layCut), (f_Mt.up (Nat.le_of_ble_eq_true rfl) TX5_layBorder), (f_Mt.up (Nat.le_of_ble_eq_true rfl) TX5_close), trivial⟩, hX⟩ h)
def VX3_holdsAny_2 (c_X3_where : Nat → Int → Int → Int → e_M → (Int → Prop) → Prop) (k2 : Nat → Nat → Int → Prop) (Q : Int → Prop) (a0 : Nat) (a1 : Nat) (x2 : Int) (M : e_M) : Prop :=
  (((M a1 18) ≤ x2 → (Q 0)) ∧ (x2 < (M a1 18) → ((0 ≤ x2 ∧ x2 < 12) ∧ ((0 ≤ x2 ∧ x2 < 12) ∧ (c_X3_where a0 (M (a1 + 5) (x2.toNat)) (M (a1 + 6) (x2.toNat)) 1 M (fun r1 => ((r1 = 0 → (k2 a0 a1 (e_w32 (x2 + 1)))) ∧ (¬ r1 = 0 → (Q 1)))))))))
def VX3_holdsAny (c_X3_where : Nat → Int → Int → Int → e_M → (Int → Prop) → Prop) (k2 : Nat → Nat → Int → Prop) (Q : Int → Prop) (a0 : Nat) (a1 : Nat) (M : e_M) : Prop :=
  (k2 a0 a1 0)
def yX3_holdsAny (i : Nat) : e_Y := x_get YX3_holdsAny [YX3_where] i
def pX3_holdsAnyf : List x_I := [(0, 0, 1, 0, 0, 0, []), (1, 5, 1, 2, 0, 0, []), (2, 49, 0, 0, 0, 0, []), (2, 2, 1, 2, 0, 0, []), (3, 4, 1, 1, 0, 0, []), (4, 25, 2, 18, 0, 0, []), (7, 18, 40, 3, 26, 0, []), (10, 4, 1, 0, 0, 0, []), (11, 4, 1, 1, 0, 0, []), (12, 25, 2, 16, 4, 0, [(0, 20, 12), (0, 1, 5)]), (15, 2, 1, 2, 0, 0, []), (16, 27, 0, 0, 0, 0, []), (17, 14, 0, 0, 0, 0, []), (18, 4, 1, 1, 0, 0, []), (19, 25, 2, 17, 4, 0, [(0, 20, 12), (0, 1, 6)]), (22, 2, 1, 2, 0, 0, []), (23, 27, 0, 0, 0, 0, []), (24, 14, 0, 0, 0, 0, []), (25, 0, 1, 0, 0, 1, []), (26, 40, 0, 4, 5, 0, []), (29, 17, 34, 0, 24, 0, []), (32, 0, 1, 0, 0, 1, []), (33, 48, 0, 0, 0, 0, []), (34, 8, 0, 2, 0, 1, []), (37, 19, 2, 0, 3, 0, []), (40, 0, 1, 0, 0, 0, []), (41, 48, 0, 0, 0, 0, [])]
set_option maxRecDepth 20000 in
theorem qX3_holdsAnyf : f_all yX3_holdsAny YX3_holdsAny pX3_holdsAnyf :=
  ⟨f_iconst (e_dx DX3_holdsAny_0 0 rfl) ⟨by decide, by decide⟩,
  f_istore_n (n := 2) (e_dx DX3_holdsAny_0 1 rfl) rfl (by decide),
  trivial,
  f_iload_n (n := 2) (e_dx DX3_holdsAny_0 2 rfl) rfl,
  f_aload_n (n := 1) (e_dx DX3_holdsAny_0 3 rfl) rfl,
  f_getf (e_dx DX3_holdsAny_0 4 rfl) fX3_46 rfl (by decide) (by decide) (by decide),
  f_icmp_ge (e_dx DX3_holdsAny_0 5 rfl) rfl,
  f_aload_n (n := 0) (e_dx DX3_holdsAny_0 6 rfl) rfl,
  f_aload_n (n := 1) (e_dx DX3_holdsAny_0 7 rfl) rfl,
  f_getA (e_dx DX3_holdsAny_0 8 rfl) fX3_51 rfl (by decide) (Nat.le_of_ble_eq_true rfl) rfl (by decide),
  f_iload_n (n := 2) (e_dx DX3_holdsAny_0 9 rfl) rfl,
  f_iaload (e_dx DX3_holdsAny_0 10 rfl),
  f_g14 (e_dx DX3_holdsAny_0 11 rfl),
  f_aload_n (n := 1) (e_dx DX3_holdsAny_0 12 rfl) rfl,
  f_getA (e_dx DX3_holdsAny_0 13 rfl) fX3_52 rfl (by decide) (Nat.le_of_ble_eq_true rfl) rfl (by decide),
  f_iload_n (n := 2) (e_dx DX3_holdsAny_0 14 rfl) rfl,
  f_iaload (e_dx DX3_holdsAny_0 15 rfl),
  f_g14 (e_dx DX3_holdsAny_0 16 rfl),
  f_iconst (e_dx DX3_holdsAny_0 17 rfl) ⟨by decide, by decide⟩,
  x_callV (e_dx DX3_holdsAny_0 18 rfl) mwX3_where vwX3_where cX3_53 rfl,
  f_if_eq (e_dx DX3_holdsAny_0 19 rfl) rfl,
  f_iconst (e_dx DX3_holdsAny_0 20 rfl) ⟨by decide, by decide⟩,
  ⟨(e_dx DX3_holdsAny_0 21 rfl), rfl⟩,
  f_g8 (e_dx DX3_holdsAny_0 22 rfl) ⟨by decide, by decide⟩,
  f_g19 (e_dx DX3_holdsAny_0 23 rfl) rfl,
  f_iconst (e_dx DX3_holdsAny_0 24 rfl) ⟨by decide, by decide⟩,
  ⟨(e_dx DX3_holdsAny_0 25 rfl), rfl⟩, trivial⟩
def lX3_holdsAny (c_X3_where : Nat → Int → Int → Int → e_M → (Int → Prop) → Prop) : List (Nat × f_Wt) := [(0, f_wm [(3, 3, 3), (2, 0, 0), (2, 0, 0), (1, 0, 0)] (fun ar M R => c_X3_where (f_va (f_nth ar 0)) (f_vi (f_nth ar 1)) (f_vi (f_nth ar 2)) (f_vi (f_nth ar 3)) M (fun r => R (some (.inl r)) M)))]
set_option maxRecDepth 20000 in
theorem BX3_holdsAny_2 {sh : Nat → Nat × Nat} {t : Nat} {rm : Nat × Nat × Nat} {cs : Nat × Nat} {R : f_Rt} {c_X3_where : Nat → Int → Int → Int → e_M → (Int → Prop) → Prop} {k2 : Nat → Nat → Int → Prop} {a0 : Nat} {a1 : Nat} {x2 : Int} {M : e_M} (C : f_Hy sh t yX3_holdsAny rm cs 6 (lX3_holdsAny c_X3_where) R) (h2 : ∀ (a0 : Nat) (a1 : Nat) (x2 : Int), k2 a0 a1 x2 → f_E sh t YX3_holdsAny rm cs (f_Q sh t R) 2 [.inr (.inr (.inl (3, 3, a0))), .inr (.inr (.inl (2, 19, a1))), .inl x2] [] M) (h : VX3_holdsAny_2 c_X3_where k2 (fun r => R (some (.inl r)) M) a0 a1 x2 M) : f_E sh t YX3_holdsAny rm cs (f_Q sh t R) 2 [.inr (.inr (.inl (3, 3, a0))), .inr (.inr (.inl (2, 19, a1))), .inl x2] [] M := by
  rw [f_kk3 M k2] at h
  exact f_go (KC := f_kc [(2, f_pl [(3, 3, 3), (3, 2, 19), (1, 0, 0)] [] (fun ls st M2 => M2 = M ∧ (k2 (f_va (f_nth ls 0)) (f_va (f_nth ls 1)) (f_vi (f_nth ls 2)))))]) C qX3_holdsAnyf (f_kc_cons (f_pl_ok rfl (fun ls st M2 ⟨e, hh⟩ => by subst e; exact h2 _ _ _ hh)) f_kc_nil) 29 3 h
set_option maxRecDepth 20000 in
theorem BX3_holdsAny {sh : Nat → Nat × Nat} {t : Nat} {rm : Nat × Nat × Nat} {cs : Nat × Nat} {R : f_Rt} {c_X3_where : Nat → Int → Int → Int → e_M → (Int → Prop) → Prop} {k2 : Nat → Nat → Int → Prop} {a0 : Nat} {a1 : Nat} {M : e_M} (C : f_Hy sh t yX3_holdsAny rm cs 6 (lX3_holdsAny c_X3_where) R) (h2 : ∀ (a0 : Nat) (a1 : Nat) (x2 : Int), k2 a0 a1 x2 → f_E sh t YX3_holdsAny rm cs (f_Q sh t R) 2 [.inr (.inr (.inl (3, 3, a0))), .inr (.inr (.inl (2, 19, a1))), .inl x2] [] M) (h : VX3_holdsAny c_X3_where k2 (fun r => R (some (.inl r)) M) a0 a1 M) : f_E sh t YX3_holdsAny rm cs (f_Q sh t R) 0 [.inr (.inr (.inl (3, 3, a0))), .inr (.inr (.inl (2, 19, a1))), .inr (.inr (.inr ()))] [] M := by
  rw [f_kk3 M k2] at h
  exact f_go (KC := f_kc [(2, f_pl [(3, 3, 3), (3, 2, 19), (1, 0, 0)] [] (fun ls st M2 => M2 = M ∧ (k2 (f_va (f_nth ls 0)) (f_va (f_nth ls 1)) (f_vi (f_nth ls 2)))))]) C qX3_holdsAnyf (f_kc_cons (f_pl_ok rfl (fun ls st M2 ⟨e, hh⟩ => by subst e; exact h2 _ _ _ hh)) f_kc_nil) 29 0 h
def WX3_holdsAny_2 (M : e_M) (Q : Int → Prop) : Nat → Nat → Nat → Int → Prop
  | 0, _, _, _ => False
  | n + 1, a0, a1, x2 =>
    VX3_holdsAny_2 WX3_where (WX3_holdsAny_2 M Q n) Q a0 a1 x2 M
def WX3_holdsAny (a0 : Nat) (a1 : Nat) (M : e_M) (Q : Int → Prop) : Prop :=
  VX3_holdsAny WX3_where (fun a0 a1 x2 => ∃ j, WX3_holdsAny_2 M Q j a0 a1 x2) Q a0 a1 M
theorem PX3_holdsAny_2 {sh : Nat → Nat × Nat} {t : Nat} {rm : Nat × Nat × Nat} {cs : Nat × Nat} {R : f_Rt} {M : e_M} (C : f_Hy sh t yX3_holdsAny rm cs 6 (lX3_holdsAny WX3_where) R) : ∀ (n : Nat) (a0 : Nat) (a1 : Nat) (x2 : Int), WX3_holdsAny_2 M (fun r => R (some (.inl r)) M) n a0 a1 x2 → f_E sh t YX3_holdsAny rm cs (f_Q sh t R) 2 [.inr (.inr (.inl (3, 3, a0))), .inr (.inr (.inl (2, 19, a1))), .inl x2] [] M := by
  intro n
  induction n with
  | zero => intro a0 a1 x2 h; exact h.elim
  | succ n ih => intro a0 a1 x2 h; exact BX3_holdsAny_2 C ih h
theorem PX3_holdsAny {sh : Nat → Nat × Nat} {t : Nat} {rm : Nat × Nat × Nat} {cs : Nat × Nat} {R : f_Rt} {a0 : Nat} {a1 : Nat} {M : e_M} (C : f_Hy sh t yX3_holdsAny rm cs 6 (lX3_holdsAny WX3_where) R) (h : WX3_holdsAny a0 a1 M (fun r => R (some (.inl r)) M)) : f_E sh t YX3_holdsAny rm cs (f_Q sh t R) 0 [.inr (.inr (.inl (3, 3, a0))), .inr (.inr (.inl (2, 19, a1))), .inr (.inr (.inr ()))] [] M :=
  BX3_holdsAny C (fun a0 a1 x2 ⟨j, h⟩ => PX3_holdsAny_2 C j _ _ _ h) h
def wX3_holdsAny : f_Wt := f_wm [(3, 3, 3), (3, 2, 19)] (fun ar M R => WX3_holdsAny (f_va (f_nth ar 0)) (f_va (f_nth ar 1)) M (fun r => R (some (.inl r)) M))
theorem TX3_holdsAny {sh : Nat → Nat × Nat} {t : Nat} : f_Mt sh t YX3_holdsAny 6 (wX3_holdsAny) :=
  f_Mt_of (k := 1) (Nat.le_of_ble_eq_true rfl) rfl rfl (fun ar M R rm cs h1 h2 h3 hX h => PX3_holdsAny ⟨Nat.le_of_ble_eq_true rfl, h1, h2, h3, ⟨(f_Mt.up (Nat.le_of_ble_eq_true rfl) TX3_where), trivial⟩, hX⟩ h)
def VX0_isSplitTooMany_2 (c_X10_at : Nat → Int → Int → e_M → (Nat → Prop) → Prop) (c_X9_isThere : Nat → Int → e_M → (Int → Prop) → Prop) (c_X8_has : Nat → Int → e_M → (Int → Prop) → Prop) (c_X3_holdsAny : Nat → Nat → e_M → (Int → Prop) → Prop) (k10 : Int → Int → Int → Prop) (Q : Int → Prop) (x1 : Int) (x2 : Int) (M : e_M) : Prop :=
  ((6 < x2 → (Q 0)) ∧ (x2 ≤ 6 → (k10 x1 x2 0)))
def VX0_isSplitTooMany_10 (c_X10_at : Nat → Int → Int → e_M → (Nat → Prop) → Prop) (c_X9_isThere : Nat → Int → e_M → (Int → Prop) → Prop) (c_X8_has : Nat → Int → e_M → (Int → Prop) → Prop) (c_X3_holdsAny : Nat → Nat → e_M → (Int → Prop) → Prop) (k2 : Int → Int → Prop) (k79 : Int → Int → Int → Nat → Prop) (k142 : Int → Int → Int → Prop) (Q : Int → Prop) (x1 : Int) (x2 : Int) (x3 : Int) (M : e_M) : Prop :=
  ((0 ≤ x2 ∧ x2 < 8) ∧ (((M ((M 4423 0).toNat + 24) (x2.toNat)) ≤ x3 → (k2 x1 (e_w32 (x2 + 1)))) ∧ (x3 < (M ((M 4423 0).toNat + 24) (x2.toNat)) → (c_X10_at ((M 4423 0).toNat) x2 x3 M (fun r1 => (c_X9_isThere r1 (M ((M 4423 0).toNat) 11) M (fun r2 => ((¬ r2 = 0 → (((M ((M r1 9).toNat) 1) < 8 → (k79 x1 x2 x3 r1)) ∧ (8 ≤ (M ((M r1 9).toNat) 1) → (c_X8_has ((M r1 9).toNat) x1 M (fun r3 => ((r3 = 0 → (k79 x1 x2 x3 r1)) ∧ (¬ r3 = 0 → (Q 1)))))))) ∧ (r2 = 0 → (k142 x1 x2 x3))))))))))
def VX0_isSplitTooMany_79 (c_X10_at : Nat → Int → Int → e_M → (Nat → Prop) → Prop) (c_X9_isThere : Nat → Int → e_M → (Int → Prop) → Prop) (c_X8_has : Nat → Int → e_M → (Int → Prop) → Prop) (c_X3_holdsAny : Nat → Nat → e_M → (Int → Prop) → Prop) (k142 : Int → Int → Int → Prop) (Q : Int → Prop) (x1 : Int) (x2 : Int) (x3 : Int) (a4 : Nat) (M : e_M) : Prop :=
  (((M ((M a4 10).toNat) 1) < 8 → (k142 x1 x2 x3)) ∧ (8 ≤ (M ((M a4 10).toNat) 1) → (c_X8_has ((M a4 10).toNat) x1 M (fun r1 => ((r1 = 0 → (k142 x1 x2 x3)) ∧ (¬ r1 = 0 → (c_X3_holdsAny 4427 ((M a4 11).toNat) M (fun r2 => ((r2 = 0 → (k142 x1 x2 x3)) ∧ (¬ r2 = 0 → (c_X3_holdsAny 4430 ((M a4 11).toNat) M (fun r3 => ((r3 = 0 → (k142 x1 x2 x3)) ∧ (¬ r3 = 0 → (Q 1)))))))))))))))
def VX0_isSplitTooMany_142 (c_X10_at : Nat → Int → Int → e_M → (Nat → Prop) → Prop) (c_X9_isThere : Nat → Int → e_M → (Int → Prop) → Prop) (c_X8_has : Nat → Int → e_M → (Int → Prop) → Prop) (c_X3_holdsAny : Nat → Nat → e_M → (Int → Prop) → Prop) (k10 : Int → Int → Int → Prop) (Q : Int → Prop) (x1 : Int) (x2 : Int) (x3 : Int) (M : e_M) : Prop :=
  (k10 x1 x2 (e_w32 (x3 + 1)))
def VX0_isSplitTooMany (c_X10_at : Nat → Int → Int → e_M → (Nat → Prop) → Prop) (c_X9_isThere : Nat → Int → e_M → (Int → Prop) → Prop) (c_X8_has : Nat → Int → e_M → (Int → Prop) → Prop) (c_X3_holdsAny : Nat → Nat → e_M → (Int → Prop) → Prop) (k2 : Int → Int → Prop) (Q : Int → Prop) (x1 : Int) (M : e_M) : Prop :=
  (k2 x1 2)
def yX0_isSplitTooMany (i : Nat) : e_Y := x_get YX0_isSplitTooMany [YX10_at, YX9_isThere, YX8_has, YX3_holdsAny] i
def pX0_isSplitTooManyf : List x_I := [(0, 0, 1, 0, 0, 2, []), (1, 5, 1, 2, 0, 0, []), (2, 49, 0, 0, 0, 0, []), (2, 2, 1, 2, 0, 0, []), (3, 0, 2, 0, 0, 6, []), (5, 18, 154, 4, 74, 0, []), (8, 0, 1, 0, 0, 0, []), (9, 5, 1, 3, 0, 0, []), (10, 49, 0, 0, 0, 0, []), (10, 2, 1, 3, 0, 0, []), (11, 4, 1, 0, 0, 0, []), (12, 25, 0, 0, 4, 0, [(0, 10, 15), (0, 0, 0)]), (15, 25, 10, 4, 4, 0, [(0, 20, 8), (0, 1, 24)]), (18, 2, 1, 2, 0, 0, []), (19, 27, 0, 0, 0, 0, []), (20, 18, 148, 3, 72, 0, []), (23, 4, 1, 0, 0, 0, []), (24, 25, 0, 0, 4, 0, [(0, 10, 15), (0, 0, 0)]), (27, 2, 1, 2, 0, 0, []), (28, 2, 1, 3, 0, 0, []), (29, 40, 0, 3, 12, 0, []), (32, 7, 2, 4, 0, 0, []), (34, 4, 2, 4, 0, 0, []), (36, 4, 1, 0, 0, 0, []), (37, 25, 0, 0, 4, 0, [(0, 10, 15), (0, 0, 0)]), (40, 25, 10, 11, 0, 0, []), (43, 40, 1, 2, 11, 0, []), (46, 17, 52, 1, 30, 0, []), (49, 19, 142, 0, 69, 0, []), (52, 4, 2, 4, 0, 0, []), (54, 25, 9, 9, 4, 0, [(0, 8, 2), (0, 0, 0)]), (57, 25, 8, 1, 0, 0, []), (60, 0, 2, 0, 0, 8, []), (62, 18, 79, 2, 42, 0, []), (65, 4, 2, 4, 0, 0, []), (67, 25, 9, 9, 4, 0, [(0, 8, 2), (0, 0, 0)]), (70, 2, 1, 1, 0, 0, []), (71, 40, 2, 2, 10, 0, []), (74, 17, 79, 0, 42, 0, []), (77, 0, 1, 0, 0, 1, []), (78, 48, 0, 0, 0, 0, []), (79, 49, 0, 0, 0, 0, []), (79, 4, 2, 4, 0, 0, []), (81, 25, 9, 10, 4, 0, [(0, 8, 2), (0, 0, 0)]), (84, 25, 8, 1, 0, 0, []), (87, 0, 2, 0, 0, 8, []), (89, 18, 142, 2, 69, 0, []), (92, 4, 2, 4, 0, 0, []), (94, 25, 9, 10, 4, 0, [(0, 8, 2), (0, 0, 0)]), (97, 2, 1, 1, 0, 0, []), (98, 40, 2, 2, 10, 0, []), (101, 17, 142, 0, 69, 0, []), (104, 4, 1, 0, 0, 0, []), (105, 25, 0, 5, 4, 0, [(0, 5, 12), (0, 1, 3)]), (108, 25, 5, 0, 4, 0, [(0, 3, 3), (0, 1, 1)]), (111, 4, 2, 4, 0, 0, []), (113, 25, 9, 11, 4, 0, [(0, 2, 19), (0, 0, 0)]), (116, 40, 3, 2, 5, 0, []), (119, 17, 142, 0, 69, 0, []), (122, 4, 1, 0, 0, 0, []), (123, 25, 0, 5, 4, 0, [(0, 5, 12), (0, 1, 3)]), (126, 25, 5, 1, 4, 0, [(0, 3, 3), (0, 1, 4)]), (129, 4, 2, 4, 0, 0, []), (131, 25, 9, 11, 4, 0, [(0, 2, 19), (0, 0, 0)]), (134, 40, 3, 2, 5, 0, []), (137, 17, 142, 0, 69, 0, []), (140, 0, 1, 0, 0, 1, []), (141, 48, 0, 0, 0, 0, []), (142, 49, 0, 0, 0, 0, []), (142, 8, 0, 3, 0, 1, []), (145, 19, 10, 0, 9, 0, []), (148, 8, 0, 2, 0, 1, []), (151, 19, 2, 0, 3, 0, []), (154, 0, 1, 0, 0, 0, []), (155, 48, 0, 0, 0, 0, [])]
set_option maxRecDepth 20000 in
theorem qX0_isSplitTooManyf : f_all yX0_isSplitTooMany YX0_isSplitTooMany pX0_isSplitTooManyf :=
  ⟨f_iconst (e_dx DX0_isSplitTooMany_0 0 rfl) ⟨by decide, by decide⟩,
  f_istore_n (n := 2) (e_dx DX0_isSplitTooMany_0 1 rfl) rfl (by decide),
  trivial,
  f_iload_n (n := 2) (e_dx DX0_isSplitTooMany_0 2 rfl) rfl,
  f_bipush (e_dx DX0_isSplitTooMany_0 3 rfl) ⟨by decide, by decide⟩,
  f_icmp_gt (e_dx DX0_isSplitTooMany_0 4 rfl) rfl,
  f_iconst (e_dx DX0_isSplitTooMany_0 5 rfl) ⟨by decide, by decide⟩,
  f_istore_n (n := 3) (e_dx DX0_isSplitTooMany_0 6 rfl) rfl (by decide),
  trivial,
  f_iload_n (n := 3) (e_dx DX0_isSplitTooMany_0 7 rfl) rfl,
  f_aload_n (n := 0) (e_dx DX0_isSplitTooMany_0 8 rfl) rfl,
  f_getA (e_dx DX0_isSplitTooMany_0 9 rfl) fX0_36 rfl (by decide) (Nat.le_of_ble_eq_true rfl) rfl (by decide),
  f_getA (e_dx DX0_isSplitTooMany_0 10 rfl) fX0_174 rfl (by decide) (Nat.le_of_ble_eq_true rfl) rfl (by decide),
  f_iload_n (n := 2) (e_dx DX0_isSplitTooMany_0 11 rfl) rfl,
  f_iaload (e_dx DX0_isSplitTooMany_0 12 rfl),
  f_icmp_ge (e_dx DX0_isSplitTooMany_0 13 rfl) rfl,
  f_aload_n (n := 0) (e_dx DX0_isSplitTooMany_0 14 rfl) rfl,
  f_getA (e_dx DX0_isSplitTooMany_0 15 rfl) fX0_36 rfl (by decide) (Nat.le_of_ble_eq_true rfl) rfl (by decide),
  f_iload_n (n := 2) (e_dx DX0_isSplitTooMany_0 16 rfl) rfl,
  f_iload_n (n := 3) (e_dx DX0_isSplitTooMany_0 17 rfl) rfl,
  x_callV (e_dx DX0_isSplitTooMany_0 18 rfl) mwX10_at vwX10_at cX0_152 rfl,
  f_astore (e_dx DX0_isSplitTooMany_0 19 rfl) (by decide),
  f_aload (e_dx DX0_isSplitTooMany_0 20 rfl),
  f_aload_n (n := 0) (e_dx DX0_isSplitTooMany_0 21 rfl) rfl,
  f_getA (e_dx DX0_isSplitTooMany_0 22 rfl) fX0_36 rfl (by decide) (Nat.le_of_ble_eq_true rfl) rfl (by decide),
  f_getf (e_dx DX0_isSplitTooMany_0 23 rfl) fX0_49 rfl (by decide) (by decide) (by decide),
  x_callV (e_dx DX0_isSplitTooMany_0 24 rfl) mwX9_isThere vwX9_isThere cX0_177 rfl,
  f_if_ne (e_dx DX0_isSplitTooMany_0 25 rfl) rfl,
  f_g19 (e_dx DX0_isSplitTooMany_0 26 rfl) rfl,
  f_aload (e_dx DX0_isSplitTooMany_0 27 rfl),
  f_getA (e_dx DX0_isSplitTooMany_0 28 rfl) fX0_179 rfl (by decide) (Nat.le_of_ble_eq_true rfl) rfl (by decide),
  f_getf (e_dx DX0_isSplitTooMany_0 29 rfl) fX0_338 rfl (by decide) (by decide) (by decide),
  f_bipush (e_dx DX0_isSplitTooMany_0 30 rfl) ⟨by decide, by decide⟩,
  f_icmp_lt (e_dx DX0_isSplitTooMany_0 31 rfl) rfl,
  f_aload (e_dx DX0_isSplitTooMany_0 32 rfl),
  f_getA (e_dx DX0_isSplitTooMany_0 33 rfl) fX0_179 rfl (by decide) (Nat.le_of_ble_eq_true rfl) rfl (by decide),
  f_iload_n (n := 1) (e_dx DX0_isSplitTooMany_0 34 rfl) rfl,
  x_callV (e_dx DX0_isSplitTooMany_0 35 rfl) mwX8_has vwX8_has cX0_183 rfl,
  f_if_eq (e_dx DX0_isSplitTooMany_0 36 rfl) rfl,
  f_iconst (e_dx DX0_isSplitTooMany_0 37 rfl) ⟨by decide, by decide⟩,
  ⟨(e_dx DX0_isSplitTooMany_0 38 rfl), rfl⟩,
  trivial,
  f_aload (e_dx DX0_isSplitTooMany_0 39 rfl),
  f_getA (e_dx DX0_isSplitTooMany_1 0 rfl) fX0_293 rfl (by decide) (Nat.le_of_ble_eq_true rfl) rfl (by decide),
  f_getf (e_dx DX0_isSplitTooMany_1 1 rfl) fX0_338 rfl (by decide) (by decide) (by decide),
  f_bipush (e_dx DX0_isSplitTooMany_1 2 rfl) ⟨by decide, by decide⟩,
  f_icmp_lt (e_dx DX0_isSplitTooMany_1 3 rfl) rfl,
  f_aload (e_dx DX0_isSplitTooMany_1 4 rfl),
  f_getA (e_dx DX0_isSplitTooMany_1 5 rfl) fX0_293 rfl (by decide) (Nat.le_of_ble_eq_true rfl) rfl (by decide),
  f_iload_n (n := 1) (e_dx DX0_isSplitTooMany_1 6 rfl) rfl,
  x_callV (e_dx DX0_isSplitTooMany_1 7 rfl) mwX8_has vwX8_has cX0_183 rfl,
  f_if_eq (e_dx DX0_isSplitTooMany_1 8 rfl) rfl,
  f_aload_n (n := 0) (e_dx DX0_isSplitTooMany_1 9 rfl) rfl,
  f_getA (e_dx DX0_isSplitTooMany_1 10 rfl) fX0_25 rfl (by decide) (Nat.le_of_ble_eq_true rfl) rfl (by decide),
  f_getA (e_dx DX0_isSplitTooMany_1 11 rfl) fX0_313 rfl (by decide) (Nat.le_of_ble_eq_true rfl) rfl (by decide),
  f_aload (e_dx DX0_isSplitTooMany_1 12 rfl),
  f_getA (e_dx DX0_isSplitTooMany_1 13 rfl) fX0_327 rfl (by decide) (Nat.le_of_ble_eq_true rfl) rfl (by decide),
  x_callV (e_dx DX0_isSplitTooMany_1 14 rfl) mwX3_holdsAny vwX3_holdsAny cX0_332 rfl,
  f_if_eq (e_dx DX0_isSplitTooMany_1 15 rfl) rfl,
  f_aload_n (n := 0) (e_dx DX0_isSplitTooMany_1 16 rfl) rfl,
  f_getA (e_dx DX0_isSplitTooMany_1 17 rfl) fX0_25 rfl (by decide) (Nat.le_of_ble_eq_true rfl) rfl (by decide),
  f_getA (e_dx DX0_isSplitTooMany_1 18 rfl) fX0_320 rfl (by decide) (Nat.le_of_ble_eq_true rfl) rfl (by decide),
  f_aload (e_dx DX0_isSplitTooMany_1 19 rfl),
  f_getA (e_dx DX0_isSplitTooMany_1 20 rfl) fX0_327 rfl (by decide) (Nat.le_of_ble_eq_true rfl) rfl (by decide),
  x_callV (e_dx DX0_isSplitTooMany_1 21 rfl) mwX3_holdsAny vwX3_holdsAny cX0_332 rfl,
  f_if_eq (e_dx DX0_isSplitTooMany_1 22 rfl) rfl,
  f_iconst (e_dx DX0_isSplitTooMany_1 23 rfl) ⟨by decide, by decide⟩,
  ⟨(e_dx DX0_isSplitTooMany_1 24 rfl), rfl⟩,
  trivial,
  f_g8 (e_dx DX0_isSplitTooMany_1 25 rfl) ⟨by decide, by decide⟩,
  f_g19 (e_dx DX0_isSplitTooMany_1 26 rfl) rfl,
  f_g8 (e_dx DX0_isSplitTooMany_1 27 rfl) ⟨by decide, by decide⟩,
  f_g19 (e_dx DX0_isSplitTooMany_1 28 rfl) rfl,
  f_iconst (e_dx DX0_isSplitTooMany_1 29 rfl) ⟨by decide, by decide⟩,
  ⟨(e_dx DX0_isSplitTooMany_1 30 rfl), rfl⟩, trivial⟩
def lX0_isSplitTooMany (c_X10_at : Nat → Int → Int → e_M → (Nat → Prop) → Prop) (c_X9_isThere : Nat → Int → e_M → (Int → Prop) → Prop) (c_X8_has : Nat → Int → e_M → (Int → Prop) → Prop) (c_X3_holdsAny : Nat → Nat → e_M → (Int → Prop) → Prop) : List (Nat × f_Wt) := [(0, f_wm [(3, 10, 15), (1, 0, 0), (1, 0, 0)] (fun ar M R => c_X10_at (f_va (f_nth ar 0)) (f_vi (f_nth ar 1)) (f_vi (f_nth ar 2)) M (fun r => R (some (.inr (.inr (.inl (9, 14, r))))) M))), (1, f_wm [(3, 9, 14), (1, 0, 0)] (fun ar M R => c_X9_isThere (f_va (f_nth ar 0)) (f_vi (f_nth ar 1)) M (fun r => R (some (.inl r)) M))), (2, f_wm [(3, 8, 2), (1, 0, 0)] (fun ar M R => c_X8_has (f_va (f_nth ar 0)) (f_vi (f_nth ar 1)) M (fun r => R (some (.inl r)) M))), (3, f_wm [(3, 3, 3), (3, 2, 19)] (fun ar M R => c_X3_holdsAny (f_va (f_nth ar 0)) (f_va (f_nth ar 1)) M (fun r => R (some (.inl r)) M)))]
set_option maxRecDepth 20000 in
theorem BX0_isSplitTooMany_2 {sh : Nat → Nat × Nat} {t : Nat} {rm : Nat × Nat × Nat} {cs : Nat × Nat} {R : f_Rt} {c_X10_at : Nat → Int → Int → e_M → (Nat → Prop) → Prop} {c_X9_isThere : Nat → Int → e_M → (Int → Prop) → Prop} {c_X8_has : Nat → Int → e_M → (Int → Prop) → Prop} {c_X3_holdsAny : Nat → Nat → e_M → (Int → Prop) → Prop} {k10 : Int → Int → Int → Prop} {x1 : Int} {x2 : Int} {M : e_M} (C : f_Hy sh t yX0_isSplitTooMany rm cs 7 (lX0_isSplitTooMany c_X10_at c_X9_isThere c_X8_has c_X3_holdsAny) R) (h10 : ∀ (x1 : Int) (x2 : Int) (x3 : Int), k10 x1 x2 x3 → f_E sh t YX0_isSplitTooMany rm cs (f_Q sh t R) 10 [.inr (.inr (.inl (0, 7, 4423))), .inl x1, .inl x2, .inl x3, .inr (.inr (.inr ()))] [] M) (h : VX0_isSplitTooMany_2 c_X10_at c_X9_isThere c_X8_has c_X3_holdsAny k10 (fun r => R (some (.inl r)) M) x1 x2 M) : f_E sh t YX0_isSplitTooMany rm cs (f_Q sh t R) 2 [.inr (.inr (.inl (0, 7, 4423))), .inl x1, .inl x2, .inr (.inr (.inr ())), .inr (.inr (.inr ()))] [] M := by
  rw [f_kk3 M k10] at h
  exact f_go (KC := f_kc [(10, f_pl [(4433, 0, 7), (1, 0, 0), (1, 0, 0), (1, 0, 0), (0, 0, 0)] [] (fun ls st M2 => M2 = M ∧ (k10 (f_vi (f_nth ls 1)) (f_vi (f_nth ls 2)) (f_vi (f_nth ls 3)))))]) C qX0_isSplitTooManyf (f_kc_cons (f_pl_ok rfl (fun ls st M2 ⟨e, hh⟩ => by subst e; exact h10 _ _ _ hh)) f_kc_nil) 77 3 h
set_option maxRecDepth 20000 in
theorem BX0_isSplitTooMany_10 {sh : Nat → Nat × Nat} {t : Nat} {rm : Nat × Nat × Nat} {cs : Nat × Nat} {R : f_Rt} {c_X10_at : Nat → Int → Int → e_M → (Nat → Prop) → Prop} {c_X9_isThere : Nat → Int → e_M → (Int → Prop) → Prop} {c_X8_has : Nat → Int → e_M → (Int → Prop) → Prop} {c_X3_holdsAny : Nat → Nat → e_M → (Int → Prop) → Prop} {k2 : Int → Int → Prop} {k79 : Int → Int → Int → Nat → Prop} {k142 : Int → Int → Int → Prop} {x1 : Int} {x2 : Int} {x3 : Int} {M : e_M} (C : f_Hy sh t yX0_isSplitTooMany rm cs 7 (lX0_isSplitTooMany c_X10_at c_X9_isThere c_X8_has c_X3_holdsAny) R) (h2 : ∀ (x1 : Int) (x2 : Int), k2 x1 x2 → f_E sh t YX0_isSplitTooMany rm cs (f_Q sh t R) 2 [.inr (.inr (.inl (0, 7, 4423))), .inl x1, .inl x2, .inr (.inr (.inr ())), .inr (.inr (.inr ()))] [] M) (h79 : ∀ (x1 : Int) (x2 : Int) (x3 : Int) (a4 : Nat), k79 x1 x2 x3 a4 → f_E sh t YX0_isSplitTooMany rm cs (f_Q sh t R) 79 [.inr (.inr (.inl (0, 7, 4423))), .inl x1, .inl x2, .inl x3, .inr (.inr (.inl (9, 14, a4)))] [] M) (h142 : ∀ (x1 : Int) (x2 : Int) (x3 : Int), k142 x1 x2 x3 → f_E sh t YX0_isSplitTooMany rm cs (f_Q sh t R) 142 [.inr (.inr (.inl (0, 7, 4423))), .inl x1, .inl x2, .inl x3, .inr (.inr (.inr ()))] [] M) (h : VX0_isSplitTooMany_10 c_X10_at c_X9_isThere c_X8_has c_X3_holdsAny k2 k79 k142 (fun r => R (some (.inl r)) M) x1 x2 x3 M) : f_E sh t YX0_isSplitTooMany rm cs (f_Q sh t R) 10 [.inr (.inr (.inl (0, 7, 4423))), .inl x1, .inl x2, .inl x3, .inr (.inr (.inr ()))] [] M := by
  rw [f_kk2 M k2] at h
  rw [f_kk4 M k79] at h
  rw [f_kk3 M k142] at h
  exact f_go (KC := f_kc [(2, f_pl [(4433, 0, 7), (1, 0, 0), (1, 0, 0), (0, 0, 0), (0, 0, 0)] [] (fun ls st M2 => M2 = M ∧ (k2 (f_vi (f_nth ls 1)) (f_vi (f_nth ls 2))))), (79, f_pl [(4433, 0, 7), (1, 0, 0), (1, 0, 0), (1, 0, 0), (3, 9, 14)] [] (fun ls st M2 => M2 = M ∧ (k79 (f_vi (f_nth ls 1)) (f_vi (f_nth ls 2)) (f_vi (f_nth ls 3)) (f_va (f_nth ls 4))))), (142, f_pl [(4433, 0, 7), (1, 0, 0), (1, 0, 0), (1, 0, 0), (0, 0, 0)] [] (fun ls st M2 => M2 = M ∧ (k142 (f_vi (f_nth ls 1)) (f_vi (f_nth ls 2)) (f_vi (f_nth ls 3)))))]) C qX0_isSplitTooManyf (f_kc_cons (f_pl_ok rfl (fun ls st M2 ⟨e, hh⟩ => by subst e; exact h2 _ _ hh)) (f_kc_cons (f_pl_ok rfl (fun ls st M2 ⟨e, hh⟩ => by subst e; exact h79 _ _ _ _ hh)) (f_kc_cons (f_pl_ok rfl (fun ls st M2 ⟨e, hh⟩ => by subst e; exact h142 _ _ _ hh)) f_kc_nil))) 77 9 h
set_option maxRecDepth 20000 in
theorem BX0_isSplitTooMany_79 {sh : Nat → Nat × Nat} {t : Nat} {rm : Nat × Nat × Nat} {cs : Nat × Nat} {R : f_Rt} {c_X10_at : Nat → Int → Int → e_M → (Nat → Prop) → Prop} {c_X9_isThere : Nat → Int → e_M → (Int → Prop) → Prop} {c_X8_has : Nat → Int → e_M → (Int → Prop) → Prop} {c_X3_holdsAny : Nat → Nat → e_M → (Int → Prop) → Prop} {k142 : Int → Int → Int → Prop} {x1 : Int} {x2 : Int} {x3 : Int} {a4 : Nat} {M : e_M} (C : f_Hy sh t yX0_isSplitTooMany rm cs 7 (lX0_isSplitTooMany c_X10_at c_X9_isThere c_X8_has c_X3_holdsAny) R) (h142 : ∀ (x1 : Int) (x2 : Int) (x3 : Int), k142 x1 x2 x3 → f_E sh t YX0_isSplitTooMany rm cs (f_Q sh t R) 142 [.inr (.inr (.inl (0, 7, 4423))), .inl x1, .inl x2, .inl x3, .inr (.inr (.inr ()))] [] M) (h : VX0_isSplitTooMany_79 c_X10_at c_X9_isThere c_X8_has c_X3_holdsAny k142 (fun r => R (some (.inl r)) M) x1 x2 x3 a4 M) : f_E sh t YX0_isSplitTooMany rm cs (f_Q sh t R) 79 [.inr (.inr (.inl (0, 7, 4423))), .inl x1, .inl x2, .inl x3, .inr (.inr (.inl (9, 14, a4)))] [] M := by
  rw [f_kk3 M k142] at h
  exact f_go (KC := f_kc [(142, f_pl [(4433, 0, 7), (1, 0, 0), (1, 0, 0), (1, 0, 0), (0, 0, 0)] [] (fun ls st M2 => M2 = M ∧ (k142 (f_vi (f_nth ls 1)) (f_vi (f_nth ls 2)) (f_vi (f_nth ls 3)))))]) C qX0_isSplitTooManyf (f_kc_cons (f_pl_ok rfl (fun ls st M2 ⟨e, hh⟩ => by subst e; exact h142 _ _ _ hh)) f_kc_nil) 77 42 h
set_option maxRecDepth 20000 in
theorem BX0_isSplitTooMany_142 {sh : Nat → Nat × Nat} {t : Nat} {rm : Nat × Nat × Nat} {cs : Nat × Nat} {R : f_Rt} {c_X10_at : Nat → Int → Int → e_M → (Nat → Prop) → Prop} {c_X9_isThere : Nat → Int → e_M → (Int → Prop) → Prop} {c_X8_has : Nat → Int → e_M → (Int → Prop) → Prop} {c_X3_holdsAny : Nat → Nat → e_M → (Int → Prop) → Prop} {k10 : Int → Int → Int → Prop} {x1 : Int} {x2 : Int} {x3 : Int} {M : e_M} (C : f_Hy sh t yX0_isSplitTooMany rm cs 7 (lX0_isSplitTooMany c_X10_at c_X9_isThere c_X8_has c_X3_holdsAny) R) (h10 : ∀ (x1 : Int) (x2 : Int) (x3 : Int), k10 x1 x2 x3 → f_E sh t YX0_isSplitTooMany rm cs (f_Q sh t R) 10 [.inr (.inr (.inl (0, 7, 4423))), .inl x1, .inl x2, .inl x3, .inr (.inr (.inr ()))] [] M) (h : VX0_isSplitTooMany_142 c_X10_at c_X9_isThere c_X8_has c_X3_holdsAny k10 (fun r => R (some (.inl r)) M) x1 x2 x3 M) : f_E sh t YX0_isSplitTooMany rm cs (f_Q sh t R) 142 [.inr (.inr (.inl (0, 7, 4423))), .inl x1, .inl x2, .inl x3, .inr (.inr (.inr ()))] [] M := by
  rw [f_kk3 M k10] at h
  exact f_go (KC := f_kc [(10, f_pl [(4433, 0, 7), (1, 0, 0), (1, 0, 0), (1, 0, 0), (0, 0, 0)] [] (fun ls st M2 => M2 = M ∧ (k10 (f_vi (f_nth ls 1)) (f_vi (f_nth ls 2)) (f_vi (f_nth ls 3)))))]) C qX0_isSplitTooManyf (f_kc_cons (f_pl_ok rfl (fun ls st M2 ⟨e, hh⟩ => by subst e; exact h10 _ _ _ hh)) f_kc_nil) 77 69 h
set_option maxRecDepth 20000 in
theorem BX0_isSplitTooMany {sh : Nat → Nat × Nat} {t : Nat} {rm : Nat × Nat × Nat} {cs : Nat × Nat} {R : f_Rt} {c_X10_at : Nat → Int → Int → e_M → (Nat → Prop) → Prop} {c_X9_isThere : Nat → Int → e_M → (Int → Prop) → Prop} {c_X8_has : Nat → Int → e_M → (Int → Prop) → Prop} {c_X3_holdsAny : Nat → Nat → e_M → (Int → Prop) → Prop} {k2 : Int → Int → Prop} {x1 : Int} {M : e_M} (C : f_Hy sh t yX0_isSplitTooMany rm cs 7 (lX0_isSplitTooMany c_X10_at c_X9_isThere c_X8_has c_X3_holdsAny) R) (h2 : ∀ (x1 : Int) (x2 : Int), k2 x1 x2 → f_E sh t YX0_isSplitTooMany rm cs (f_Q sh t R) 2 [.inr (.inr (.inl (0, 7, 4423))), .inl x1, .inl x2, .inr (.inr (.inr ())), .inr (.inr (.inr ()))] [] M) (h : VX0_isSplitTooMany c_X10_at c_X9_isThere c_X8_has c_X3_holdsAny k2 (fun r => R (some (.inl r)) M) x1 M) : f_E sh t YX0_isSplitTooMany rm cs (f_Q sh t R) 0 [.inr (.inr (.inl (0, 7, 4423))), .inl x1, .inr (.inr (.inr ())), .inr (.inr (.inr ())), .inr (.inr (.inr ()))] [] M := by
  rw [f_kk2 M k2] at h
  exact f_go (KC := f_kc [(2, f_pl [(4433, 0, 7), (1, 0, 0), (1, 0, 0), (0, 0, 0), (0, 0, 0)] [] (fun ls st M2 => M2 = M ∧ (k2 (f_vi (f_nth ls 1)) (f_vi (f_nth ls 2)))))]) C qX0_isSplitTooManyf (f_kc_cons (f_pl_ok rfl (fun ls st M2 ⟨e, hh⟩ => by subst e; exact h2 _ _ hh)) f_kc_nil) 77 0 h
def WX0_isSplitTooMany_142 (M : e_M) (H2 : Int → Int → Prop) (H10 : Int → Int → Int → Prop) (Q : Int → Prop) (x1 : Int) (x2 : Int) (x3 : Int) : Prop :=
  VX0_isSplitTooMany_142 WX10_at WX9_isThere WX8_has WX3_holdsAny H10 Q x1 x2 x3 M
def WX0_isSplitTooMany_79 (M : e_M) (H2 : Int → Int → Prop) (H10 : Int → Int → Int → Prop) (Q : Int → Prop) (x1 : Int) (x2 : Int) (x3 : Int) (a4 : Nat) : Prop :=
  VX0_isSplitTooMany_79 WX10_at WX9_isThere WX8_has WX3_holdsAny (WX0_isSplitTooMany_142 M H2 H10 Q) Q x1 x2 x3 a4 M
def WX0_isSplitTooMany_10 (M : e_M) (H2 : Int → Int → Prop) (Q : Int → Prop) : Nat → Int → Int → Int → Prop
  | 0, _, _, _ => False
  | n + 1, x1, x2, x3 =>
    VX0_isSplitTooMany_10 WX10_at WX9_isThere WX8_has WX3_holdsAny H2 (WX0_isSplitTooMany_79 M H2 (WX0_isSplitTooMany_10 M H2 Q n) Q) (WX0_isSplitTooMany_142 M H2 (WX0_isSplitTooMany_10 M H2 Q n) Q) Q x1 x2 x3 M
def WX0_isSplitTooMany_2 (M : e_M) (Q : Int → Prop) : Nat → Int → Int → Prop
  | 0, _, _ => False
  | n + 1, x1, x2 =>
    VX0_isSplitTooMany_2 WX10_at WX9_isThere WX8_has WX3_holdsAny (fun x1 x2 x3 => ∃ j, WX0_isSplitTooMany_10 M (WX0_isSplitTooMany_2 M Q n) Q j x1 x2 x3) Q x1 x2 M
def WX0_isSplitTooMany (x1 : Int) (M : e_M) (Q : Int → Prop) : Prop :=
  VX0_isSplitTooMany WX10_at WX9_isThere WX8_has WX3_holdsAny (fun x1 x2 => ∃ j, WX0_isSplitTooMany_2 M Q j x1 x2) Q x1 M
theorem PX0_isSplitTooMany_142 {sh : Nat → Nat × Nat} {t : Nat} {rm : Nat × Nat × Nat} {cs : Nat × Nat} {R : f_Rt} {H2 : Int → Int → Prop} {H10 : Int → Int → Int → Prop} {x1 : Int} {x2 : Int} {x3 : Int} {M : e_M} (C : f_Hy sh t yX0_isSplitTooMany rm cs 7 (lX0_isSplitTooMany WX10_at WX9_isThere WX8_has WX3_holdsAny) R) (g2 : ∀ (x1 : Int) (x2 : Int), H2 x1 x2 → f_E sh t YX0_isSplitTooMany rm cs (f_Q sh t R) 2 [.inr (.inr (.inl (0, 7, 4423))), .inl x1, .inl x2, .inr (.inr (.inr ())), .inr (.inr (.inr ()))] [] M) (g10 : ∀ (x1 : Int) (x2 : Int) (x3 : Int), H10 x1 x2 x3 → f_E sh t YX0_isSplitTooMany rm cs (f_Q sh t R) 10 [.inr (.inr (.inl (0, 7, 4423))), .inl x1, .inl x2, .inl x3, .inr (.inr (.inr ()))] [] M) (h : WX0_isSplitTooMany_142 M H2 H10 (fun r => R (some (.inl r)) M) x1 x2 x3) : f_E sh t YX0_isSplitTooMany rm cs (f_Q sh t R) 142 [.inr (.inr (.inl (0, 7, 4423))), .inl x1, .inl x2, .inl x3, .inr (.inr (.inr ()))] [] M :=
  BX0_isSplitTooMany_142 C g10 h
theorem PX0_isSplitTooMany_79 {sh : Nat → Nat × Nat} {t : Nat} {rm : Nat × Nat × Nat} {cs : Nat × Nat} {R : f_Rt} {H2 : Int → Int → Prop} {H10 : Int → Int → Int → Prop} {x1 : Int} {x2 : Int} {x3 : Int} {a4 : Nat} {M : e_M} (C : f_Hy sh t yX0_isSplitTooMany rm cs 7 (lX0_isSplitTooMany WX10_at WX9_isThere WX8_has WX3_holdsAny) R) (g2 : ∀ (x1 : Int) (x2 : Int), H2 x1 x2 → f_E sh t YX0_isSplitTooMany rm cs (f_Q sh t R) 2 [.inr (.inr (.inl (0, 7, 4423))), .inl x1, .inl x2, .inr (.inr (.inr ())), .inr (.inr (.inr ()))] [] M) (g10 : ∀ (x1 : Int) (x2 : Int) (x3 : Int), H10 x1 x2 x3 → f_E sh t YX0_isSplitTooMany rm cs (f_Q sh t R) 10 [.inr (.inr (.inl (0, 7, 4423))), .inl x1, .inl x2, .inl x3, .inr (.inr (.inr ()))] [] M) (h : WX0_isSplitTooMany_79 M H2 H10 (fun r => R (some (.inl r)) M) x1 x2 x3 a4) : f_E sh t YX0_isSplitTooMany rm cs (f_Q sh t R) 79 [.inr (.inr (.inl (0, 7, 4423))), .inl x1, .inl x2, .inl x3, .inr (.inr (.inl (9, 14, a4)))] [] M :=
  BX0_isSplitTooMany_79 C (fun x1 x2 x3 h => PX0_isSplitTooMany_142 C g2 g10 h) h
theorem PX0_isSplitTooMany_10 {sh : Nat → Nat × Nat} {t : Nat} {rm : Nat × Nat × Nat} {cs : Nat × Nat} {R : f_Rt} {H2 : Int → Int → Prop} {M : e_M} (C : f_Hy sh t yX0_isSplitTooMany rm cs 7 (lX0_isSplitTooMany WX10_at WX9_isThere WX8_has WX3_holdsAny) R) (g2 : ∀ (x1 : Int) (x2 : Int), H2 x1 x2 → f_E sh t YX0_isSplitTooMany rm cs (f_Q sh t R) 2 [.inr (.inr (.inl (0, 7, 4423))), .inl x1, .inl x2, .inr (.inr (.inr ())), .inr (.inr (.inr ()))] [] M) : ∀ (n : Nat) (x1 : Int) (x2 : Int) (x3 : Int), WX0_isSplitTooMany_10 M H2 (fun r => R (some (.inl r)) M) n x1 x2 x3 → f_E sh t YX0_isSplitTooMany rm cs (f_Q sh t R) 10 [.inr (.inr (.inl (0, 7, 4423))), .inl x1, .inl x2, .inl x3, .inr (.inr (.inr ()))] [] M := by
  intro n
  induction n with
  | zero => intro x1 x2 x3 h; exact h.elim
  | succ n ih => intro x1 x2 x3 h; exact BX0_isSplitTooMany_10 C g2 (fun x1 x2 x3 a4 h => PX0_isSplitTooMany_79 C g2 ih h) (fun x1 x2 x3 h => PX0_isSplitTooMany_142 C g2 ih h) h
theorem PX0_isSplitTooMany_2 {sh : Nat → Nat × Nat} {t : Nat} {rm : Nat × Nat × Nat} {cs : Nat × Nat} {R : f_Rt} {M : e_M} (C : f_Hy sh t yX0_isSplitTooMany rm cs 7 (lX0_isSplitTooMany WX10_at WX9_isThere WX8_has WX3_holdsAny) R) : ∀ (n : Nat) (x1 : Int) (x2 : Int), WX0_isSplitTooMany_2 M (fun r => R (some (.inl r)) M) n x1 x2 → f_E sh t YX0_isSplitTooMany rm cs (f_Q sh t R) 2 [.inr (.inr (.inl (0, 7, 4423))), .inl x1, .inl x2, .inr (.inr (.inr ())), .inr (.inr (.inr ()))] [] M := by
  intro n
  induction n with
  | zero => intro x1 x2 h; exact h.elim
  | succ n ih => intro x1 x2 h; exact BX0_isSplitTooMany_2 C (fun x1 x2 x3 ⟨j, h⟩ => PX0_isSplitTooMany_10 C ih j _ _ _ h) h
theorem PX0_isSplitTooMany {sh : Nat → Nat × Nat} {t : Nat} {rm : Nat × Nat × Nat} {cs : Nat × Nat} {R : f_Rt} {x1 : Int} {M : e_M} (C : f_Hy sh t yX0_isSplitTooMany rm cs 7 (lX0_isSplitTooMany WX10_at WX9_isThere WX8_has WX3_holdsAny) R) (h : WX0_isSplitTooMany x1 M (fun r => R (some (.inl r)) M)) : f_E sh t YX0_isSplitTooMany rm cs (f_Q sh t R) 0 [.inr (.inr (.inl (0, 7, 4423))), .inl x1, .inr (.inr (.inr ())), .inr (.inr (.inr ())), .inr (.inr (.inr ()))] [] M :=
  BX0_isSplitTooMany C (fun x1 x2 ⟨j, h⟩ => PX0_isSplitTooMany_2 C j _ _ h) h
def wX0_isSplitTooMany : f_Wt := f_wm [(4433, 0, 7), (1, 0, 0)] (fun ar M R => WX0_isSplitTooMany (f_vi (f_nth ar 1)) M (fun r => R (some (.inl r)) M))
theorem TX0_isSplitTooMany {sh : Nat → Nat × Nat} {t : Nat} : f_Mt sh t YX0_isSplitTooMany 7 (wX0_isSplitTooMany) :=
  f_Mt_of (k := 3) (Nat.le_of_ble_eq_true rfl) rfl rfl (fun ar M R rm cs h1 h2 h3 hX h => PX0_isSplitTooMany ⟨Nat.le_of_ble_eq_true rfl, h1, h2, h3, ⟨(f_Mt.up (Nat.le_of_ble_eq_true rfl) TX10_at), (f_Mt.up (Nat.le_of_ble_eq_true rfl) TX9_isThere), (f_Mt.up (Nat.le_of_ble_eq_true rfl) TX8_has), (f_Mt.up (Nat.le_of_ble_eq_true rfl) TX3_holdsAny), trivial⟩, hX⟩ h)
def VX8_clear (Q : e_M → Prop) (a0 : Nat) (M : e_M) : Prop :=
  (∀ M1 : e_M, M1 = e_up M a0 1 0 → (Q M1))
def yX8_clear (i : Nat) : e_Y := x_get YX8_clear [] i
def pX8_clearf : List x_I := [(0, 4, 1, 0, 0, 0, []), (1, 0, 1, 0, 0, 0, []), (2, 26, 8, 1, 0, 0, []), (5, 44, 0, 0, 0, 0, [])]
set_option maxRecDepth 20000 in
theorem qX8_clearf : f_all yX8_clear YX8_clear pX8_clearf :=
  ⟨f_aload_n (n := 0) (e_dx DX8_clear_0 0 rfl) rfl,
  f_iconst (e_dx DX8_clear_0 1 rfl) ⟨by decide, by decide⟩,
  f_putn (e_dx DX8_clear_0 2 rfl) fX8_15 (fun q hq => by cases hq; rfl) rfl (Or.inl rfl) (by decide),
  ⟨(e_dx DX8_clear_0 3 rfl), rfl⟩, trivial⟩
def lX8_clear : List (Nat × f_Wt) := []
set_option maxRecDepth 20000 in
theorem BX8_clear {sh : Nat → Nat × Nat} {t : Nat} {rm : Nat × Nat × Nat} {cs : Nat × Nat} {R : f_Rt} {a0 : Nat} {M : e_M} (C : f_Hy sh t yX8_clear rm cs 4 (lX8_clear) R) (h : VX8_clear (fun M => R none M) a0 M) : f_E sh t YX8_clear rm cs (f_Q sh t R) 0 [.inr (.inr (.inl (8, 2, a0)))] [] M :=
  f_go (KC := f_kc []) C qX8_clearf f_kc_nil 6 0 h
def WX8_clear (a0 : Nat) (M : e_M) (Q : e_M → Prop) : Prop :=
  VX8_clear Q a0 M
theorem PX8_clear {sh : Nat → Nat × Nat} {t : Nat} {rm : Nat × Nat × Nat} {cs : Nat × Nat} {R : f_Rt} {a0 : Nat} {M : e_M} (C : f_Hy sh t yX8_clear rm cs 4 (lX8_clear) R) (h : WX8_clear a0 M (fun M => R none M)) : f_E sh t YX8_clear rm cs (f_Q sh t R) 0 [.inr (.inr (.inl (8, 2, a0)))] [] M :=
  BX8_clear C h
def wX8_clear : f_Wt := f_wm [(3, 8, 2)] (fun ar M R => WX8_clear (f_va (f_nth ar 0)) M (fun M => R none M))
theorem TX8_clear {sh : Nat → Nat × Nat} {t : Nat} : f_Mt sh t YX8_clear 4 (wX8_clear) :=
  f_Mt_of (k := 0) (Nat.le_of_ble_eq_true rfl) rfl rfl (fun ar M R rm cs h1 h2 h3 hX h => PX8_clear ⟨Nat.le_of_ble_eq_true rfl, h1, h2, h3, trivial, hX⟩ h)
def VX4_begin (c_X3_clear : Nat → e_M → (e_M → Prop) → Prop) (c_X8_clear : Nat → e_M → (e_M → Prop) → Prop) (Q : e_M → Prop) (a0 : Nat) (x1 : Int) (M : e_M) : Prop :=
  (∀ M1 : e_M, M1 = e_up M a0 0 x1 → (((0 : Int) = 0 ∨ (0 : Int) = 1) ∧ (∀ M2 : e_M, M2 = e_up M1 a0 1 0 → (∀ M3 : e_M, M3 = e_up M2 a0 2 0 → (c_X3_clear (a0 + 1) M3 (fun M4 => (c_X8_clear (a0 + 4) M4 (fun M5 => (∀ M6 : e_M, M6 = e_up M5 a0 8 0 → (Q M6))))))))))
def yX4_begin (i : Nat) : e_Y := x_get YX4_begin [YX3_clear, YX8_clear] i
def pX4_beginf : List x_I := [(0, 4, 1, 0, 0, 0, []), (1, 3, 1, 1, 0, 0, []), (2, 26, 4, 0, 3, 0, []), (5, 4, 1, 0, 0, 0, []), (6, 0, 1, 0, 0, 0, []), (7, 26, 4, 1, 1, 0, []), (10, 4, 1, 0, 0, 0, []), (11, 0, 1, 0, 0, 0, []), (12, 26, 4, 2, 0, 0, []), (15, 4, 1, 0, 0, 0, []), (16, 25, 4, 3, 4, 0, [(0, 3, 3), (0, 1, 1)]), (19, 40, 0, 1, 5, 0, []), (22, 4, 1, 0, 0, 0, []), (23, 25, 4, 4, 4, 0, [(0, 8, 2), (0, 1, 4)]), (26, 40, 1, 1, 10, 0, []), (29, 4, 1, 0, 0, 0, []), (30, 0, 1, 0, 0, 0, []), (31, 26, 4, 8, 0, 0, []), (34, 44, 0, 0, 0, 0, [])]
set_option maxRecDepth 20000 in
theorem qX4_beginf : f_all yX4_begin YX4_begin pX4_beginf :=
  ⟨f_aload_n (n := 0) (e_dx DX4_begin_0 0 rfl) rfl,
  f_lload_n (n := 1) (e_dx DX4_begin_0 1 rfl) rfl,
  f_putn (e_dx DX4_begin_0 2 rfl) fX4_9 (fun q hq => by cases hq; rfl) rfl (Or.inr (Or.inr rfl)) (by decide),
  f_aload_n (n := 0) (e_dx DX4_begin_0 3 rfl) rfl,
  f_iconst (e_dx DX4_begin_0 4 rfl) ⟨by decide, by decide⟩,
  f_putn (e_dx DX4_begin_0 5 rfl) fX4_15 (fun q hq => by cases hq; rfl) rfl (Or.inr (Or.inl rfl)) (by decide),
  f_aload_n (n := 0) (e_dx DX4_begin_0 6 rfl) rfl,
  f_iconst (e_dx DX4_begin_0 7 rfl) ⟨by decide, by decide⟩,
  f_putn (e_dx DX4_begin_0 8 rfl) fX4_19 (fun q hq => by cases hq; rfl) rfl (Or.inl rfl) (by decide),
  f_aload_n (n := 0) (e_dx DX4_begin_0 9 rfl) rfl,
  f_getA (e_dx DX4_begin_0 10 rfl) fX4_26 rfl (by decide) (Nat.le_of_ble_eq_true rfl) rfl (by decide),
  x_callV (e_dx DX4_begin_0 11 rfl) mwX3_clear vwX3_clear cX4_51 rfl,
  f_aload_n (n := 0) (e_dx DX4_begin_0 12 rfl) rfl,
  f_getA (e_dx DX4_begin_0 13 rfl) fX4_33 rfl (by decide) (Nat.le_of_ble_eq_true rfl) rfl (by decide),
  x_callV (e_dx DX4_begin_0 14 rfl) mwX8_clear vwX8_clear cX4_54 rfl,
  f_aload_n (n := 0) (e_dx DX4_begin_0 15 rfl) rfl,
  f_iconst (e_dx DX4_begin_0 16 rfl) ⟨by decide, by decide⟩,
  f_putn (e_dx DX4_begin_0 17 rfl) fX4_48 (fun q hq => by cases hq; rfl) rfl (Or.inl rfl) (by decide),
  ⟨(e_dx DX4_begin_0 18 rfl), rfl⟩, trivial⟩
def lX4_begin (c_X3_clear : Nat → e_M → (e_M → Prop) → Prop) (c_X8_clear : Nat → e_M → (e_M → Prop) → Prop) : List (Nat × f_Wt) := [(0, f_wm [(3, 3, 3)] (fun ar M R => c_X3_clear (f_va (f_nth ar 0)) M (fun M => R none M))), (1, f_wm [(3, 8, 2)] (fun ar M R => c_X8_clear (f_va (f_nth ar 0)) M (fun M => R none M)))]
set_option maxRecDepth 20000 in
theorem BX4_begin {sh : Nat → Nat × Nat} {t : Nat} {rm : Nat × Nat × Nat} {cs : Nat × Nat} {R : f_Rt} {c_X3_clear : Nat → e_M → (e_M → Prop) → Prop} {c_X8_clear : Nat → e_M → (e_M → Prop) → Prop} {a0 : Nat} {x1 : Int} {M : e_M} (C : f_Hy sh t yX4_begin rm cs 5 (lX4_begin c_X3_clear c_X8_clear) R) (h : VX4_begin c_X3_clear c_X8_clear (fun M => R none M) a0 x1 M) : f_E sh t YX4_begin rm cs (f_Q sh t R) 0 [.inr (.inr (.inl (4, 9, a0))), .inr (.inl x1), .inr (.inr (.inr ()))] [] M :=
  f_go (KC := f_kc []) C qX4_beginf f_kc_nil 21 0 h
def WX4_begin (a0 : Nat) (x1 : Int) (M : e_M) (Q : e_M → Prop) : Prop :=
  VX4_begin WX3_clear WX8_clear Q a0 x1 M
theorem PX4_begin {sh : Nat → Nat × Nat} {t : Nat} {rm : Nat × Nat × Nat} {cs : Nat × Nat} {R : f_Rt} {a0 : Nat} {x1 : Int} {M : e_M} (C : f_Hy sh t yX4_begin rm cs 5 (lX4_begin WX3_clear WX8_clear) R) (h : WX4_begin a0 x1 M (fun M => R none M)) : f_E sh t YX4_begin rm cs (f_Q sh t R) 0 [.inr (.inr (.inl (4, 9, a0))), .inr (.inl x1), .inr (.inr (.inr ()))] [] M :=
  BX4_begin C h
def wX4_begin : f_Wt := f_wm [(3, 4, 9), (2, 0, 0)] (fun ar M R => WX4_begin (f_va (f_nth ar 0)) (f_vi (f_nth ar 1)) M (fun M => R none M))
theorem TX4_begin {sh : Nat → Nat × Nat} {t : Nat} : f_Mt sh t YX4_begin 5 (wX4_begin) :=
  f_Mt_of (k := 0) (Nat.le_of_ble_eq_true rfl) rfl rfl (fun ar M R rm cs h1 h2 h3 hX h => PX4_begin ⟨Nat.le_of_ble_eq_true rfl, h1, h2, h3, ⟨(f_Mt.up (Nat.le_of_ble_eq_true rfl) TX3_clear), (f_Mt.up (Nat.le_of_ble_eq_true rfl) TX8_clear), trivial⟩, hX⟩ h)
def VX10_addLot (c_X10_isFull : Nat → Int → e_M → (Int → Prop) → Prop) (c_X4_begin : Nat → Int → e_M → (e_M → Prop) → Prop) (Q : Int → e_M → Prop) (a0 : Nat) (x1 : Int) (M : e_M) : Prop :=
  (c_X10_isFull a0 0 M (fun r1 => ((r1 = 0 → ((0 ≤ (0 : Int) ∧ (0 : Int) < 8) ∧ ((0 ≤ (M (a0 + 24) ((0 : Int).toNat)) ∧ (M (a0 + 24) ((0 : Int).toNat)) < 80) ∧ (c_X4_begin ((M (a0 + 1) ((M (a0 + 24) ((0 : Int).toNat)).toNat)).toNat) x1 M (fun M2 => ((0 ≤ (0 : Int) ∧ (0 : Int) < 8) ∧ ((0 ≤ (0 : Int) ∧ (0 : Int) < 8) ∧ (∀ M3 : e_M, M3 = e_up M2 (a0 + 24) ((0 : Int).toNat) (e_w32 ((M2 (a0 + 24) ((0 : Int).toNat)) + 1)) → ((0 ≤ (0 : Int) ∧ (0 : Int) < 8) ∧ (Q (e_w32 ((M3 (a0 + 24) ((0 : Int).toNat)) - 1)) M3)))))))))) ∧ (¬ r1 = 0 → (Q (-1) M)))))
def yX10_addLot (i : Nat) : e_Y := x_get YX10_addLot [YX10_isFull, YX4_begin] i
def pX10_addLotf : List x_I := [(0, 4, 1, 0, 0, 0, []), (1, 0, 1, 0, 0, 0, []), (2, 40, 0, 2, 12, 0, []), (5, 17, 10, 0, 7, 0, []), (8, 0, 1, 0, 0, (-1), []), (9, 41, 0, 0, 0, 0, []), (10, 4, 1, 0, 0, 0, []), (11, 25, 10, 0, 4, 0, [(0, 34, 80), (0, 1, 1)]), (14, 4, 1, 0, 0, 0, []), (15, 25, 10, 4, 4, 0, [(0, 20, 8), (0, 1, 24)]), (18, 0, 1, 0, 0, 0, []), (19, 27, 0, 0, 0, 0, []), (20, 27, 0, 3, 0, 0, [(0, 4, 9), (0, 0, 0)]), (21, 3, 1, 1, 0, 0, []), (22, 40, 1, 2, 6, 0, []), (25, 4, 1, 0, 0, 0, []), (26, 25, 10, 4, 4, 0, [(0, 20, 8), (0, 1, 24)]), (29, 0, 1, 0, 0, 0, []), (30, 23, 0, 0, 0, 0, []), (31, 27, 0, 0, 0, 0, []), (32, 0, 1, 0, 0, 1, []), (33, 9, 0, 0, 0, 0, []), (34, 28, 0, 0, 0, 0, []), (35, 4, 1, 0, 0, 0, []), (36, 25, 10, 4, 4, 0, [(0, 20, 8), (0, 1, 24)]), (39, 0, 1, 0, 0, 0, []), (40, 27, 0, 0, 0, 0, []), (41, 0, 1, 0, 0, 1, []), (42, 9, 0, 1, 0, 0, []), (43, 41, 0, 0, 0, 0, [])]
set_option maxRecDepth 20000 in
theorem qX10_addLotf : f_all yX10_addLot YX10_addLot pX10_addLotf :=
  ⟨f_aload_n (n := 0) (e_dx DX10_addLot_0 0 rfl) rfl,
  f_iconst (e_dx DX10_addLot_0 1 rfl) ⟨by decide, by decide⟩,
  x_callV (e_dx DX10_addLot_0 2 rfl) mwX10_isFull vwX10_isFull cX10_135 rfl,
  f_if_eq (e_dx DX10_addLot_0 3 rfl) rfl,
  f_iconst (e_dx DX10_addLot_0 4 rfl) ⟨by decide, by decide⟩,
  ⟨(e_dx DX10_addLot_0 5 rfl), rfl⟩,
  f_aload_n (n := 0) (e_dx DX10_addLot_0 6 rfl) rfl,
  f_getA (e_dx DX10_addLot_0 7 rfl) fX10_15 rfl (by decide) (Nat.le_of_ble_eq_true rfl) rfl (by decide),
  f_aload_n (n := 0) (e_dx DX10_addLot_0 8 rfl) rfl,
  f_getA (e_dx DX10_addLot_0 9 rfl) fX10_42 rfl (by decide) (Nat.le_of_ble_eq_true rfl) rfl (by decide),
  f_iconst (e_dx DX10_addLot_0 10 rfl) ⟨by decide, by decide⟩,
  f_iaload (e_dx DX10_addLot_0 11 rfl),
  f_aaload (e_dx DX10_addLot_0 12 rfl) (by decide) rfl,
  f_lload_n (n := 1) (e_dx DX10_addLot_0 13 rfl) rfl,
  x_callV (e_dx DX10_addLot_0 14 rfl) mwX4_begin vwX4_begin cX10_139 rfl,
  f_aload_n (n := 0) (e_dx DX10_addLot_0 15 rfl) rfl,
  f_getA (e_dx DX10_addLot_0 16 rfl) fX10_42 rfl (by decide) (Nat.le_of_ble_eq_true rfl) rfl (by decide),
  f_iconst (e_dx DX10_addLot_0 17 rfl) ⟨by decide, by decide⟩,
  f_g23 (e_dx DX10_addLot_0 18 rfl),
  f_iaload (e_dx DX10_addLot_0 19 rfl),
  f_iconst (e_dx DX10_addLot_0 20 rfl) ⟨by decide, by decide⟩,
  f_iadd (e_dx DX10_addLot_0 21 rfl),
  f_iastore (e_dx DX10_addLot_0 22 rfl),
  f_aload_n (n := 0) (e_dx DX10_addLot_0 23 rfl) rfl,
  f_getA (e_dx DX10_addLot_0 24 rfl) fX10_42 rfl (by decide) (Nat.le_of_ble_eq_true rfl) rfl (by decide),
  f_iconst (e_dx DX10_addLot_0 25 rfl) ⟨by decide, by decide⟩,
  f_iaload (e_dx DX10_addLot_0 26 rfl),
  f_iconst (e_dx DX10_addLot_0 27 rfl) ⟨by decide, by decide⟩,
  f_isub (e_dx DX10_addLot_0 28 rfl),
  ⟨(e_dx DX10_addLot_0 29 rfl), rfl⟩, trivial⟩
def lX10_addLot (c_X10_isFull : Nat → Int → e_M → (Int → Prop) → Prop) (c_X4_begin : Nat → Int → e_M → (e_M → Prop) → Prop) : List (Nat × f_Wt) := [(0, f_wm [(3, 10, 15), (1, 0, 0)] (fun ar M R => c_X10_isFull (f_va (f_nth ar 0)) (f_vi (f_nth ar 1)) M (fun r => R (some (.inl r)) M))), (1, f_wm [(3, 4, 9), (2, 0, 0)] (fun ar M R => c_X4_begin (f_va (f_nth ar 0)) (f_vi (f_nth ar 1)) M (fun M => R none M)))]
set_option maxRecDepth 20000 in
theorem BX10_addLot {sh : Nat → Nat × Nat} {t : Nat} {rm : Nat × Nat × Nat} {cs : Nat × Nat} {R : f_Rt} {c_X10_isFull : Nat → Int → e_M → (Int → Prop) → Prop} {c_X4_begin : Nat → Int → e_M → (e_M → Prop) → Prop} {a0 : Nat} {x1 : Int} {M : e_M} (C : f_Hy sh t yX10_addLot rm cs 6 (lX10_addLot c_X10_isFull c_X4_begin) R) (h : VX10_addLot c_X10_isFull c_X4_begin (fun r M => R (some (.inl r)) M) a0 x1 M) : f_E sh t YX10_addLot rm cs (f_Q sh t R) 0 [.inr (.inr (.inl (10, 15, a0))), .inr (.inl x1), .inr (.inr (.inr ()))] [] M :=
  f_go (KC := f_kc []) C qX10_addLotf f_kc_nil 32 0 h
def WX10_addLot (a0 : Nat) (x1 : Int) (M : e_M) (Q : Int → e_M → Prop) : Prop :=
  VX10_addLot WX10_isFull WX4_begin Q a0 x1 M
theorem PX10_addLot {sh : Nat → Nat × Nat} {t : Nat} {rm : Nat × Nat × Nat} {cs : Nat × Nat} {R : f_Rt} {a0 : Nat} {x1 : Int} {M : e_M} (C : f_Hy sh t yX10_addLot rm cs 6 (lX10_addLot WX10_isFull WX4_begin) R) (h : WX10_addLot a0 x1 M (fun r M => R (some (.inl r)) M)) : f_E sh t YX10_addLot rm cs (f_Q sh t R) 0 [.inr (.inr (.inl (10, 15, a0))), .inr (.inl x1), .inr (.inr (.inr ()))] [] M :=
  BX10_addLot C h
def wX10_addLot : f_Wt := f_wm [(3, 10, 15), (2, 0, 0)] (fun ar M R => WX10_addLot (f_va (f_nth ar 0)) (f_vi (f_nth ar 1)) M (fun r M => R (some (.inl r)) M))
theorem TX10_addLot {sh : Nat → Nat × Nat} {t : Nat} : f_Mt sh t YX10_addLot 6 (wX10_addLot) :=
  f_Mt_of (k := 0) (Nat.le_of_ble_eq_true rfl) rfl rfl (fun ar M R rm cs h1 h2 h3 hX h => PX10_addLot ⟨Nat.le_of_ble_eq_true rfl, h1, h2, h3, ⟨(f_Mt.up (Nat.le_of_ble_eq_true rfl) TX10_isFull), (f_Mt.up (Nat.le_of_ble_eq_true rfl) TX4_begin), trivial⟩, hX⟩ h)
def VX8_copy_7 (c_X8_add : Nat → Int → e_M → (e_M → Prop) → Prop) (k7 : Nat → Nat → Int → e_M → Prop) (Q : e_M → Prop) (a0 : Nat) (a1 : Nat) (x2 : Int) (M : e_M) : Prop :=
  (((M a1 1) ≤ x2 → (Q M)) ∧ (x2 < (M a1 1) → ((0 ≤ x2 ∧ x2 < 8) ∧ (c_X8_add a0 (M (a1 + 1) (x2.toNat)) M (fun M1 => (k7 a0 a1 (e_w32 (x2 + 1)) M1))))))
def VX8_copy (c_X8_add : Nat → Int → e_M → (e_M → Prop) → Prop) (k7 : Nat → Nat → Int → e_M → Prop) (Q : e_M → Prop) (a0 : Nat) (a1 : Nat) (M : e_M) : Prop :=
  (∀ M1 : e_M, M1 = e_up M a0 1 0 → (k7 a0 a1 0 M1))
def yX8_copy (i : Nat) : e_Y := x_get YX8_copy [YX8_add] i
def pX8_copyf : List x_I := [(0, 4, 1, 0, 0, 0, []), (1, 0, 1, 0, 0, 0, []), (2, 26, 8, 1, 0, 0, []), (5, 0, 1, 0, 0, 0, []), (6, 5, 1, 2, 0, 0, []), (7, 49, 0, 0, 0, 0, []), (7, 2, 1, 2, 0, 0, []), (8, 4, 1, 1, 0, 0, []), (9, 25, 8, 1, 0, 0, []), (12, 18, 31, 3, 19, 0, []), (15, 4, 1, 0, 0, 0, []), (16, 4, 1, 1, 0, 0, []), (17, 25, 8, 0, 4, 0, [(0, 20, 8), (0, 1, 1)]), (20, 2, 1, 2, 0, 0, []), (21, 27, 0, 0, 0, 0, []), (22, 40, 0, 2, 10, 0, []), (25, 8, 0, 2, 0, 1, []), (28, 19, 7, 0, 6, 0, []), (31, 44, 0, 0, 0, 0, [])]
set_option maxRecDepth 20000 in
theorem qX8_copyf : f_all yX8_copy YX8_copy pX8_copyf :=
  ⟨f_aload_n (n := 0) (e_dx DX8_copy_0 0 rfl) rfl,
  f_iconst (e_dx DX8_copy_0 1 rfl) ⟨by decide, by decide⟩,
  f_putn (e_dx DX8_copy_0 2 rfl) fX8_15 (fun q hq => by cases hq; rfl) rfl (Or.inl rfl) (by decide),
  f_iconst (e_dx DX8_copy_0 3 rfl) ⟨by decide, by decide⟩,
  f_istore_n (n := 2) (e_dx DX8_copy_0 4 rfl) rfl (by decide),
  trivial,
  f_iload_n (n := 2) (e_dx DX8_copy_0 5 rfl) rfl,
  f_aload_n (n := 1) (e_dx DX8_copy_0 6 rfl) rfl,
  f_getf (e_dx DX8_copy_0 7 rfl) fX8_15 rfl (by decide) (by decide) (by decide),
  f_icmp_ge (e_dx DX8_copy_0 8 rfl) rfl,
  f_aload_n (n := 0) (e_dx DX8_copy_0 9 rfl) rfl,
  f_aload_n (n := 1) (e_dx DX8_copy_0 10 rfl) rfl,
  f_getA (e_dx DX8_copy_0 11 rfl) fX8_9 rfl (by decide) (Nat.le_of_ble_eq_true rfl) rfl (by decide),
  f_iload_n (n := 2) (e_dx DX8_copy_0 12 rfl) rfl,
  f_iaload (e_dx DX8_copy_0 13 rfl),
  x_callV (e_dx DX8_copy_0 14 rfl) mwX8_add vwX8_add cX8_27 rfl,
  f_g8 (e_dx DX8_copy_0 15 rfl) ⟨by decide, by decide⟩,
  f_g19 (e_dx DX8_copy_0 16 rfl) rfl,
  ⟨(e_dx DX8_copy_0 17 rfl), rfl⟩, trivial⟩
def lX8_copy (c_X8_add : Nat → Int → e_M → (e_M → Prop) → Prop) : List (Nat × f_Wt) := [(0, f_wm [(3, 8, 2), (1, 0, 0)] (fun ar M R => c_X8_add (f_va (f_nth ar 0)) (f_vi (f_nth ar 1)) M (fun M => R none M)))]
set_option maxRecDepth 20000 in
theorem BX8_copy_7 {sh : Nat → Nat × Nat} {t : Nat} {rm : Nat × Nat × Nat} {cs : Nat × Nat} {R : f_Rt} {c_X8_add : Nat → Int → e_M → (e_M → Prop) → Prop} {k7 : Nat → Nat → Int → e_M → Prop} {a0 : Nat} {a1 : Nat} {x2 : Int} {M : e_M} (C : f_Hy sh t yX8_copy rm cs 6 (lX8_copy c_X8_add) R) (h7 : ∀ (a0 : Nat) (a1 : Nat) (x2 : Int) (M : e_M), k7 a0 a1 x2 M → f_E sh t YX8_copy rm cs (f_Q sh t R) 7 [.inr (.inr (.inl (8, 2, a0))), .inr (.inr (.inl (8, 2, a1))), .inl x2] [] M) (h : VX8_copy_7 c_X8_add k7 (fun M => R none M) a0 a1 x2 M) : f_E sh t YX8_copy rm cs (f_Q sh t R) 7 [.inr (.inr (.inl (8, 2, a0))), .inr (.inr (.inl (8, 2, a1))), .inl x2] [] M :=
  f_go (KC := f_kc [(7, f_pl [(3, 8, 2), (3, 8, 2), (1, 0, 0)] [] (fun ls st M => k7 (f_va (f_nth ls 0)) (f_va (f_nth ls 1)) (f_vi (f_nth ls 2)) M))]) C qX8_copyf (f_kc_cons (f_pl_ok rfl (fun ls st M h => h7 _ _ _ M h)) f_kc_nil) 21 6 h
set_option maxRecDepth 20000 in
theorem BX8_copy {sh : Nat → Nat × Nat} {t : Nat} {rm : Nat × Nat × Nat} {cs : Nat × Nat} {R : f_Rt} {c_X8_add : Nat → Int → e_M → (e_M → Prop) → Prop} {k7 : Nat → Nat → Int → e_M → Prop} {a0 : Nat} {a1 : Nat} {M : e_M} (C : f_Hy sh t yX8_copy rm cs 6 (lX8_copy c_X8_add) R) (h7 : ∀ (a0 : Nat) (a1 : Nat) (x2 : Int) (M : e_M), k7 a0 a1 x2 M → f_E sh t YX8_copy rm cs (f_Q sh t R) 7 [.inr (.inr (.inl (8, 2, a0))), .inr (.inr (.inl (8, 2, a1))), .inl x2] [] M) (h : VX8_copy c_X8_add k7 (fun M => R none M) a0 a1 M) : f_E sh t YX8_copy rm cs (f_Q sh t R) 0 [.inr (.inr (.inl (8, 2, a0))), .inr (.inr (.inl (8, 2, a1))), .inr (.inr (.inr ()))] [] M :=
  f_go (KC := f_kc [(7, f_pl [(3, 8, 2), (3, 8, 2), (1, 0, 0)] [] (fun ls st M => k7 (f_va (f_nth ls 0)) (f_va (f_nth ls 1)) (f_vi (f_nth ls 2)) M))]) C qX8_copyf (f_kc_cons (f_pl_ok rfl (fun ls st M h => h7 _ _ _ M h)) f_kc_nil) 21 0 h
def WX8_copy_7 (Q : e_M → Prop) : Nat → Nat → Nat → Int → e_M → Prop
  | 0, _, _, _, _ => False
  | n + 1, a0, a1, x2, M =>
    VX8_copy_7 WX8_add (WX8_copy_7 Q n) Q a0 a1 x2 M
def WX8_copy (a0 : Nat) (a1 : Nat) (M : e_M) (Q : e_M → Prop) : Prop :=
  VX8_copy WX8_add (fun a0 a1 x2 M => ∃ j, WX8_copy_7 Q j a0 a1 x2 M) Q a0 a1 M
theorem PX8_copy_7 {sh : Nat → Nat × Nat} {t : Nat} {rm : Nat × Nat × Nat} {cs : Nat × Nat} {R : f_Rt} (C : f_Hy sh t yX8_copy rm cs 6 (lX8_copy WX8_add) R) : ∀ (n : Nat) (a0 : Nat) (a1 : Nat) (x2 : Int) (M : e_M), WX8_copy_7 (fun M => R none M) n a0 a1 x2 M → f_E sh t YX8_copy rm cs (f_Q sh t R) 7 [.inr (.inr (.inl (8, 2, a0))), .inr (.inr (.inl (8, 2, a1))), .inl x2] [] M := by
  intro n
  induction n with
  | zero => intro a0 a1 x2 M h; exact h.elim
  | succ n ih => intro a0 a1 x2 M h; exact BX8_copy_7 C ih h
theorem PX8_copy {sh : Nat → Nat × Nat} {t : Nat} {rm : Nat × Nat × Nat} {cs : Nat × Nat} {R : f_Rt} {a0 : Nat} {a1 : Nat} {M : e_M} (C : f_Hy sh t yX8_copy rm cs 6 (lX8_copy WX8_add) R) (h : WX8_copy a0 a1 M (fun M => R none M)) : f_E sh t YX8_copy rm cs (f_Q sh t R) 0 [.inr (.inr (.inl (8, 2, a0))), .inr (.inr (.inl (8, 2, a1))), .inr (.inr (.inr ()))] [] M :=
  BX8_copy C (fun a0 a1 x2 M ⟨j, h⟩ => PX8_copy_7 C j _ _ _ _ h) h
def wX8_copy : f_Wt := f_wm [(3, 8, 2), (3, 8, 2)] (fun ar M R => WX8_copy (f_va (f_nth ar 0)) (f_va (f_nth ar 1)) M (fun M => R none M))
theorem TX8_copy {sh : Nat → Nat × Nat} {t : Nat} : f_Mt sh t YX8_copy 6 (wX8_copy) :=
  f_Mt_of (k := 1) (Nat.le_of_ble_eq_true rfl) rfl rfl (fun ar M R rm cs h1 h2 h3 hX h => PX8_copy ⟨Nat.le_of_ble_eq_true rfl, h1, h2, h3, ⟨(f_Mt.up (Nat.le_of_ble_eq_true rfl) TX8_add), trivial⟩, hX⟩ h)
def VX3_copy_6 (c_X3_clear : Nat → e_M → (e_M → Prop) → Prop) (c_X3_add : Nat → Int → Int → e_M → (e_M → Prop) → Prop) (k6 : Nat → Nat → Int → e_M → Prop) (Q : e_M → Prop) (a0 : Nat) (a1 : Nat) (x2 : Int) (M : e_M) : Prop :=
  (((M a1 2) ≤ x2 → (Q M)) ∧ (x2 < (M a1 2) → ((0 ≤ x2 ∧ x2 < 40) ∧ ((0 ≤ x2 ∧ x2 < 40) ∧ (c_X3_add a0 (M (a1 + 1) (x2.toNat)) (M (a1 + 2) (x2.toNat)) M (fun M1 => (k6 a0 a1 (e_w32 (x2 + 1)) M1)))))))
def VX3_copy (c_X3_clear : Nat → e_M → (e_M → Prop) → Prop) (c_X3_add : Nat → Int → Int → e_M → (e_M → Prop) → Prop) (k6 : Nat → Nat → Int → e_M → Prop) (Q : e_M → Prop) (a0 : Nat) (a1 : Nat) (M : e_M) : Prop :=
  (c_X3_clear a0 M (fun M1 => (k6 a0 a1 0 M1)))
def yX3_copy (i : Nat) : e_Y := x_get YX3_copy [YX3_clear, YX3_add] i
def pX3_copyf : List x_I := [(0, 4, 1, 0, 0, 0, []), (1, 40, 0, 1, 5, 0, []), (4, 0, 1, 0, 0, 0, []), (5, 5, 1, 2, 0, 0, []), (6, 49, 0, 0, 0, 0, []), (6, 2, 1, 2, 0, 0, []), (7, 4, 1, 1, 0, 0, []), (8, 25, 3, 2, 0, 0, []), (11, 18, 36, 3, 22, 0, []), (14, 4, 1, 0, 0, 0, []), (15, 4, 1, 1, 0, 0, []), (16, 25, 3, 0, 4, 0, [(0, 20, 40), (0, 1, 1)]), (19, 2, 1, 2, 0, 0, []), (20, 27, 0, 0, 0, 0, []), (21, 4, 1, 1, 0, 0, []), (22, 25, 3, 1, 4, 0, [(0, 20, 40), (0, 1, 2)]), (25, 2, 1, 2, 0, 0, []), (26, 27, 0, 0, 0, 0, []), (27, 40, 1, 3, 5, 0, []), (30, 8, 0, 2, 0, 1, []), (33, 19, 6, 0, 5, 0, []), (36, 44, 0, 0, 0, 0, [])]
set_option maxRecDepth 20000 in
theorem qX3_copyf : f_all yX3_copy YX3_copy pX3_copyf :=
  ⟨f_aload_n (n := 0) (e_dx DX3_copy_0 0 rfl) rfl,
  x_callV (e_dx DX3_copy_0 1 rfl) mwX3_clear vwX3_clear cX3_22 rfl,
  f_iconst (e_dx DX3_copy_0 2 rfl) ⟨by decide, by decide⟩,
  f_istore_n (n := 2) (e_dx DX3_copy_0 3 rfl) rfl (by decide),
  trivial,
  f_iload_n (n := 2) (e_dx DX3_copy_0 4 rfl) rfl,
  f_aload_n (n := 1) (e_dx DX3_copy_0 5 rfl) rfl,
  f_getf (e_dx DX3_copy_0 6 rfl) fX3_18 rfl (by decide) (by decide) (by decide),
  f_icmp_ge (e_dx DX3_copy_0 7 rfl) rfl,
  f_aload_n (n := 0) (e_dx DX3_copy_0 8 rfl) rfl,
  f_aload_n (n := 1) (e_dx DX3_copy_0 9 rfl) rfl,
  f_getA (e_dx DX3_copy_0 10 rfl) fX3_9 rfl (by decide) (Nat.le_of_ble_eq_true rfl) rfl (by decide),
  f_iload_n (n := 2) (e_dx DX3_copy_0 11 rfl) rfl,
  f_iaload (e_dx DX3_copy_0 12 rfl),
  f_aload_n (n := 1) (e_dx DX3_copy_0 13 rfl) rfl,
  f_getA (e_dx DX3_copy_0 14 rfl) fX3_15 rfl (by decide) (Nat.le_of_ble_eq_true rfl) rfl (by decide),
  f_iload_n (n := 2) (e_dx DX3_copy_0 15 rfl) rfl,
  f_iaload (e_dx DX3_copy_0 16 rfl),
  x_callV (e_dx DX3_copy_0 17 rfl) mwX3_add vwX3_add cX3_25 rfl,
  f_g8 (e_dx DX3_copy_0 18 rfl) ⟨by decide, by decide⟩,
  f_g19 (e_dx DX3_copy_0 19 rfl) rfl,
  ⟨(e_dx DX3_copy_0 20 rfl), rfl⟩, trivial⟩
def lX3_copy (c_X3_clear : Nat → e_M → (e_M → Prop) → Prop) (c_X3_add : Nat → Int → Int → e_M → (e_M → Prop) → Prop) : List (Nat × f_Wt) := [(0, f_wm [(3, 3, 3)] (fun ar M R => c_X3_clear (f_va (f_nth ar 0)) M (fun M => R none M))), (1, f_wm [(3, 3, 3), (1, 0, 0), (1, 0, 0)] (fun ar M R => c_X3_add (f_va (f_nth ar 0)) (f_vi (f_nth ar 1)) (f_vi (f_nth ar 2)) M (fun M => R none M)))]
set_option maxRecDepth 20000 in
theorem BX3_copy_6 {sh : Nat → Nat × Nat} {t : Nat} {rm : Nat × Nat × Nat} {cs : Nat × Nat} {R : f_Rt} {c_X3_clear : Nat → e_M → (e_M → Prop) → Prop} {c_X3_add : Nat → Int → Int → e_M → (e_M → Prop) → Prop} {k6 : Nat → Nat → Int → e_M → Prop} {a0 : Nat} {a1 : Nat} {x2 : Int} {M : e_M} (C : f_Hy sh t yX3_copy rm cs 5 (lX3_copy c_X3_clear c_X3_add) R) (h6 : ∀ (a0 : Nat) (a1 : Nat) (x2 : Int) (M : e_M), k6 a0 a1 x2 M → f_E sh t YX3_copy rm cs (f_Q sh t R) 6 [.inr (.inr (.inl (3, 3, a0))), .inr (.inr (.inl (3, 3, a1))), .inl x2] [] M) (h : VX3_copy_6 c_X3_clear c_X3_add k6 (fun M => R none M) a0 a1 x2 M) : f_E sh t YX3_copy rm cs (f_Q sh t R) 6 [.inr (.inr (.inl (3, 3, a0))), .inr (.inr (.inl (3, 3, a1))), .inl x2] [] M :=
  f_go (KC := f_kc [(6, f_pl [(3, 3, 3), (3, 3, 3), (1, 0, 0)] [] (fun ls st M => k6 (f_va (f_nth ls 0)) (f_va (f_nth ls 1)) (f_vi (f_nth ls 2)) M))]) C qX3_copyf (f_kc_cons (f_pl_ok rfl (fun ls st M h => h6 _ _ _ M h)) f_kc_nil) 24 5 h
set_option maxRecDepth 20000 in
theorem BX3_copy {sh : Nat → Nat × Nat} {t : Nat} {rm : Nat × Nat × Nat} {cs : Nat × Nat} {R : f_Rt} {c_X3_clear : Nat → e_M → (e_M → Prop) → Prop} {c_X3_add : Nat → Int → Int → e_M → (e_M → Prop) → Prop} {k6 : Nat → Nat → Int → e_M → Prop} {a0 : Nat} {a1 : Nat} {M : e_M} (C : f_Hy sh t yX3_copy rm cs 5 (lX3_copy c_X3_clear c_X3_add) R) (h6 : ∀ (a0 : Nat) (a1 : Nat) (x2 : Int) (M : e_M), k6 a0 a1 x2 M → f_E sh t YX3_copy rm cs (f_Q sh t R) 6 [.inr (.inr (.inl (3, 3, a0))), .inr (.inr (.inl (3, 3, a1))), .inl x2] [] M) (h : VX3_copy c_X3_clear c_X3_add k6 (fun M => R none M) a0 a1 M) : f_E sh t YX3_copy rm cs (f_Q sh t R) 0 [.inr (.inr (.inl (3, 3, a0))), .inr (.inr (.inl (3, 3, a1))), .inr (.inr (.inr ()))] [] M :=
  f_go (KC := f_kc [(6, f_pl [(3, 3, 3), (3, 3, 3), (1, 0, 0)] [] (fun ls st M => k6 (f_va (f_nth ls 0)) (f_va (f_nth ls 1)) (f_vi (f_nth ls 2)) M))]) C qX3_copyf (f_kc_cons (f_pl_ok rfl (fun ls st M h => h6 _ _ _ M h)) f_kc_nil) 24 0 h
def WX3_copy_6 (Q : e_M → Prop) : Nat → Nat → Nat → Int → e_M → Prop
  | 0, _, _, _, _ => False
  | n + 1, a0, a1, x2, M =>
    VX3_copy_6 WX3_clear WX3_add (WX3_copy_6 Q n) Q a0 a1 x2 M
def WX3_copy (a0 : Nat) (a1 : Nat) (M : e_M) (Q : e_M → Prop) : Prop :=
  VX3_copy WX3_clear WX3_add (fun a0 a1 x2 M => ∃ j, WX3_copy_6 Q j a0 a1 x2 M) Q a0 a1 M
theorem PX3_copy_6 {sh : Nat → Nat × Nat} {t : Nat} {rm : Nat × Nat × Nat} {cs : Nat × Nat} {R : f_Rt} (C : f_Hy sh t yX3_copy rm cs 5 (lX3_copy WX3_clear WX3_add) R) : ∀ (n : Nat) (a0 : Nat) (a1 : Nat) (x2 : Int) (M : e_M), WX3_copy_6 (fun M => R none M) n a0 a1 x2 M → f_E sh t YX3_copy rm cs (f_Q sh t R) 6 [.inr (.inr (.inl (3, 3, a0))), .inr (.inr (.inl (3, 3, a1))), .inl x2] [] M := by
  intro n
  induction n with
  | zero => intro a0 a1 x2 M h; exact h.elim
  | succ n ih => intro a0 a1 x2 M h; exact BX3_copy_6 C ih h
theorem PX3_copy {sh : Nat → Nat × Nat} {t : Nat} {rm : Nat × Nat × Nat} {cs : Nat × Nat} {R : f_Rt} {a0 : Nat} {a1 : Nat} {M : e_M} (C : f_Hy sh t yX3_copy rm cs 5 (lX3_copy WX3_clear WX3_add) R) (h : WX3_copy a0 a1 M (fun M => R none M)) : f_E sh t YX3_copy rm cs (f_Q sh t R) 0 [.inr (.inr (.inl (3, 3, a0))), .inr (.inr (.inl (3, 3, a1))), .inr (.inr (.inr ()))] [] M :=
  BX3_copy C (fun a0 a1 x2 M ⟨j, h⟩ => PX3_copy_6 C j _ _ _ _ h) h
def wX3_copy : f_Wt := f_wm [(3, 3, 3), (3, 3, 3)] (fun ar M R => WX3_copy (f_va (f_nth ar 0)) (f_va (f_nth ar 1)) M (fun M => R none M))
theorem TX3_copy {sh : Nat → Nat × Nat} {t : Nat} : f_Mt sh t YX3_copy 5 (wX3_copy) :=
  f_Mt_of (k := 1) (Nat.le_of_ble_eq_true rfl) rfl rfl (fun ar M R rm cs h1 h2 h3 hX h => PX3_copy ⟨Nat.le_of_ble_eq_true rfl, h1, h2, h3, ⟨(f_Mt.up (Nat.le_of_ble_eq_true rfl) TX3_clear), (f_Mt.up (Nat.le_of_ble_eq_true rfl) TX3_add), trivial⟩, hX⟩ h)
def VX0_makeLot (c_X10_addLot : Nat → Int → e_M → (Int → e_M → Prop) → Prop) (c_X10_lot : Nat → Int → e_M → (Nat → Prop) → Prop) (c_X4_copyOwners : Nat → Nat → e_M → (e_M → Prop) → Prop) (c_X8_copy : Nat → Nat → e_M → (e_M → Prop) → Prop) (c_X3_copy : Nat → Nat → e_M → (e_M → Prop) → Prop) (Q : Int → e_M → Prop) (x1 : Int) (a3 : Nat) (a4 : Nat) (M : e_M) : Prop :=
  (c_X10_addLot ((M 4423 0).toNat) x1 M (fun r1 M2 => (c_X10_lot ((M2 4423 0).toNat) r1 M2 (fun r3 => (c_X4_copyOwners r3 a3 M2 (fun M4 => (c_X8_copy (r3 + 4) (a3 + 4) M4 (fun M5 => (c_X3_copy (r3 + 1) a4 M5 (fun M6 => (Q r1 M6)))))))))))
def yX0_makeLot (i : Nat) : e_Y := x_get YX0_makeLot [YX10_addLot, YX10_lot, YX4_copyOwners, YX8_copy, YX3_copy] i
def pX0_makeLotf : List x_I := [(0, 4, 1, 0, 0, 0, []), (1, 25, 0, 0, 4, 0, [(0, 10, 15), (0, 0, 0)]), (4, 3, 1, 1, 0, 0, []), (5, 40, 0, 2, 12, 0, []), (8, 5, 2, 5, 0, 0, []), (10, 4, 1, 0, 0, 0, []), (11, 25, 0, 0, 4, 0, [(0, 10, 15), (0, 0, 0)]), (14, 2, 2, 5, 0, 0, []), (16, 40, 1, 2, 12, 0, []), (19, 7, 2, 6, 0, 0, []), (21, 4, 2, 6, 0, 0, []), (23, 4, 1, 3, 0, 0, []), (24, 40, 2, 2, 6, 0, []), (27, 4, 2, 6, 0, 0, []), (29, 25, 4, 4, 4, 0, [(0, 8, 2), (0, 1, 4)]), (32, 4, 1, 3, 0, 0, []), (33, 25, 4, 4, 4, 0, [(0, 8, 2), (0, 1, 4)]), (36, 40, 3, 2, 10, 0, []), (39, 4, 2, 6, 0, 0, []), (41, 25, 4, 3, 4, 0, [(0, 3, 3), (0, 1, 1)]), (44, 4, 2, 4, 0, 0, []), (46, 40, 4, 2, 5, 0, []), (49, 2, 2, 5, 0, 0, []), (51, 41, 0, 0, 0, 0, [])]
set_option maxRecDepth 20000 in
theorem qX0_makeLotf : f_all yX0_makeLot YX0_makeLot pX0_makeLotf :=
  ⟨f_aload_n (n := 0) (e_dx DX0_makeLot_0 0 rfl) rfl,
  f_getA (e_dx DX0_makeLot_0 1 rfl) fX0_36 rfl (by decide) (Nat.le_of_ble_eq_true rfl) rfl (by decide),
  f_lload_n (n := 1) (e_dx DX0_makeLot_0 2 rfl) rfl,
  x_callV (e_dx DX0_makeLot_0 3 rfl) mwX10_addLot vwX10_addLot cX0_340 rfl,
  f_istore (e_dx DX0_makeLot_0 4 rfl) (by decide),
  f_aload_n (n := 0) (e_dx DX0_makeLot_0 5 rfl) rfl,
  f_getA (e_dx DX0_makeLot_0 6 rfl) fX0_36 rfl (by decide) (Nat.le_of_ble_eq_true rfl) rfl (by decide),
  f_iload (e_dx DX0_makeLot_0 7 rfl),
  x_callV (e_dx DX0_makeLot_0 8 rfl) mwX10_lot vwX10_lot cX0_161 rfl,
  f_astore (e_dx DX0_makeLot_0 9 rfl) (by decide),
  f_aload (e_dx DX0_makeLot_0 10 rfl),
  f_aload_n (n := 3) (e_dx DX0_makeLot_0 11 rfl) rfl,
  x_callV (e_dx DX0_makeLot_0 12 rfl) mwX4_copyOwners vwX4_copyOwners cX0_232 rfl,
  f_aload (e_dx DX0_makeLot_0 13 rfl),
  f_getA (e_dx DX0_makeLot_0 14 rfl) fX0_343 rfl (by decide) (Nat.le_of_ble_eq_true rfl) rfl (by decide),
  f_aload_n (n := 3) (e_dx DX0_makeLot_0 15 rfl) rfl,
  f_getA (e_dx DX0_makeLot_0 16 rfl) fX0_343 rfl (by decide) (Nat.le_of_ble_eq_true rfl) rfl (by decide),
  x_callV (e_dx DX0_makeLot_0 17 rfl) mwX8_copy vwX8_copy cX0_346 rfl,
  f_aload (e_dx DX0_makeLot_0 18 rfl),
  f_getA (e_dx DX0_makeLot_0 19 rfl) fX0_299 rfl (by decide) (Nat.le_of_ble_eq_true rfl) rfl (by decide),
  f_aload (e_dx DX0_makeLot_0 20 rfl),
  x_callV (e_dx DX0_makeLot_0 21 rfl) mwX3_copy vwX3_copy cX0_350 rfl,
  f_iload (e_dx DX0_makeLot_0 22 rfl),
  ⟨(e_dx DX0_makeLot_0 23 rfl), rfl⟩, trivial⟩
def lX0_makeLot (c_X10_addLot : Nat → Int → e_M → (Int → e_M → Prop) → Prop) (c_X10_lot : Nat → Int → e_M → (Nat → Prop) → Prop) (c_X4_copyOwners : Nat → Nat → e_M → (e_M → Prop) → Prop) (c_X8_copy : Nat → Nat → e_M → (e_M → Prop) → Prop) (c_X3_copy : Nat → Nat → e_M → (e_M → Prop) → Prop) : List (Nat × f_Wt) := [(0, f_wm [(3, 10, 15), (2, 0, 0)] (fun ar M R => c_X10_addLot (f_va (f_nth ar 0)) (f_vi (f_nth ar 1)) M (fun r M => R (some (.inl r)) M))), (1, f_wm [(3, 10, 15), (1, 0, 0)] (fun ar M R => c_X10_lot (f_va (f_nth ar 0)) (f_vi (f_nth ar 1)) M (fun r => R (some (.inr (.inr (.inl (4, 9, r))))) M))), (2, f_wm [(3, 4, 9), (3, 4, 9)] (fun ar M R => c_X4_copyOwners (f_va (f_nth ar 0)) (f_va (f_nth ar 1)) M (fun M => R none M))), (3, f_wm [(3, 8, 2), (3, 8, 2)] (fun ar M R => c_X8_copy (f_va (f_nth ar 0)) (f_va (f_nth ar 1)) M (fun M => R none M))), (4, f_wm [(3, 3, 3), (3, 3, 3)] (fun ar M R => c_X3_copy (f_va (f_nth ar 0)) (f_va (f_nth ar 1)) M (fun M => R none M)))]
set_option maxRecDepth 20000 in
theorem BX0_makeLot {sh : Nat → Nat × Nat} {t : Nat} {rm : Nat × Nat × Nat} {cs : Nat × Nat} {R : f_Rt} {c_X10_addLot : Nat → Int → e_M → (Int → e_M → Prop) → Prop} {c_X10_lot : Nat → Int → e_M → (Nat → Prop) → Prop} {c_X4_copyOwners : Nat → Nat → e_M → (e_M → Prop) → Prop} {c_X8_copy : Nat → Nat → e_M → (e_M → Prop) → Prop} {c_X3_copy : Nat → Nat → e_M → (e_M → Prop) → Prop} {x1 : Int} {a3 : Nat} {a4 : Nat} {M : e_M} (C : f_Hy sh t yX0_makeLot rm cs 7 (lX0_makeLot c_X10_addLot c_X10_lot c_X4_copyOwners c_X8_copy c_X3_copy) R) (h : VX0_makeLot c_X10_addLot c_X10_lot c_X4_copyOwners c_X8_copy c_X3_copy (fun r M => R (some (.inl r)) M) x1 a3 a4 M) : f_E sh t YX0_makeLot rm cs (f_Q sh t R) 0 [.inr (.inr (.inl (0, 7, 4423))), .inr (.inl x1), .inr (.inr (.inr ())), .inr (.inr (.inl (4, 9, a3))), .inr (.inr (.inl (3, 3, a4))), .inr (.inr (.inr ())), .inr (.inr (.inr ()))] [] M :=
  f_go (KC := f_kc []) C qX0_makeLotf f_kc_nil 26 0 h
def WX0_makeLot (x1 : Int) (a3 : Nat) (a4 : Nat) (M : e_M) (Q : Int → e_M → Prop) : Prop :=
  VX0_makeLot WX10_addLot WX10_lot WX4_copyOwners WX8_copy WX3_copy Q x1 a3 a4 M
theorem PX0_makeLot {sh : Nat → Nat × Nat} {t : Nat} {rm : Nat × Nat × Nat} {cs : Nat × Nat} {R : f_Rt} {x1 : Int} {a3 : Nat} {a4 : Nat} {M : e_M} (C : f_Hy sh t yX0_makeLot rm cs 7 (lX0_makeLot WX10_addLot WX10_lot WX4_copyOwners WX8_copy WX3_copy) R) (h : WX0_makeLot x1 a3 a4 M (fun r M => R (some (.inl r)) M)) : f_E sh t YX0_makeLot rm cs (f_Q sh t R) 0 [.inr (.inr (.inl (0, 7, 4423))), .inr (.inl x1), .inr (.inr (.inr ())), .inr (.inr (.inl (4, 9, a3))), .inr (.inr (.inl (3, 3, a4))), .inr (.inr (.inr ())), .inr (.inr (.inr ()))] [] M :=
  BX0_makeLot C h
def wX0_makeLot : f_Wt := f_wm [(4433, 0, 7), (2, 0, 0), (3, 4, 9), (3, 3, 3)] (fun ar M R => WX0_makeLot (f_vi (f_nth ar 1)) (f_va (f_nth ar 2)) (f_va (f_nth ar 3)) M (fun r M => R (some (.inl r)) M))
theorem TX0_makeLot {sh : Nat → Nat × Nat} {t : Nat} : f_Mt sh t YX0_makeLot 7 (wX0_makeLot) :=
  f_Mt_of (k := 2) (Nat.le_of_ble_eq_true rfl) rfl rfl (fun ar M R rm cs h1 h2 h3 hX h => PX0_makeLot ⟨Nat.le_of_ble_eq_true rfl, h1, h2, h3, ⟨(f_Mt.up (Nat.le_of_ble_eq_true rfl) TX10_addLot), (f_Mt.up (Nat.le_of_ble_eq_true rfl) TX10_lot), (f_Mt.up (Nat.le_of_ble_eq_true rfl) TX4_copyOwners), (f_Mt.up (Nat.le_of_ble_eq_true rfl) TX8_copy), (f_Mt.up (Nat.le_of_ble_eq_true rfl) TX3_copy), trivial⟩, hX⟩ h)
def VX8_remove_23 (c_X8_find : Nat → Int → e_M → (Int → Prop) → Prop) (k23 : Nat → Int → e_M → Prop) (Q : e_M → Prop) (a0 : Nat) (x3 : Int) (M : e_M) : Prop :=
  (((M a0 1) ≤ x3 → (Q M)) ∧ (x3 < (M a0 1) → ((0 ≤ (e_w32 (x3 + 1)) ∧ (e_w32 (x3 + 1)) < 8) ∧ ((0 ≤ x3 ∧ x3 < 8) ∧ (∀ M1 : e_M, M1 = e_up M (a0 + 1) (x3.toNat) (M (a0 + 1) ((e_w32 (x3 + 1)).toNat)) → (k23 a0 (e_w32 (x3 + 1)) M1))))))
def VX8_remove (c_X8_find : Nat → Int → e_M → (Int → Prop) → Prop) (k23 : Nat → Int → e_M → Prop) (Q : e_M → Prop) (a0 : Nat) (x1 : Int) (M : e_M) : Prop :=
  (c_X8_find a0 x1 M (fun r1 => ((0 ≤ r1 → (∀ M2 : e_M, M2 = e_up M a0 1 (e_w32 ((M a0 1) - 1)) → (k23 a0 r1 M2))) ∧ (r1 < 0 → (Q M)))))
def yX8_remove (i : Nat) : e_Y := x_get YX8_remove [YX8_find] i
def pX8_removef : List x_I := [(0, 4, 1, 0, 0, 0, []), (1, 2, 1, 1, 0, 0, []), (2, 40, 0, 2, 10, 0, []), (5, 5, 1, 2, 0, 0, []), (6, 2, 1, 2, 0, 0, []), (7, 17, 11, 3, 8, 0, []), (10, 44, 0, 0, 0, 0, []), (11, 4, 1, 0, 0, 0, []), (12, 20, 0, 0, 0, 0, []), (13, 25, 8, 1, 0, 0, []), (16, 0, 1, 0, 0, 1, []), (17, 9, 0, 1, 0, 0, []), (18, 26, 8, 1, 0, 0, []), (21, 2, 1, 2, 0, 0, []), (22, 5, 1, 3, 0, 0, []), (23, 49, 0, 0, 0, 0, []), (23, 2, 1, 3, 0, 0, []), (24, 4, 1, 0, 0, 0, []), (25, 25, 8, 1, 0, 0, []), (28, 18, 51, 3, 33, 0, []), (31, 4, 1, 0, 0, 0, []), (32, 25, 8, 0, 4, 0, [(0, 20, 8), (0, 1, 1)]), (35, 2, 1, 3, 0, 0, []), (36, 4, 1, 0, 0, 0, []), (37, 25, 8, 0, 4, 0, [(0, 20, 8), (0, 1, 1)]), (40, 2, 1, 3, 0, 0, []), (41, 0, 1, 0, 0, 1, []), (42, 9, 0, 0, 0, 0, []), (43, 27, 0, 0, 0, 0, []), (44, 28, 0, 0, 0, 0, []), (45, 8, 0, 3, 0, 1, []), (48, 19, 23, 0, 16, 0, []), (51, 44, 0, 0, 0, 0, [])]
set_option maxRecDepth 20000 in
theorem qX8_removef : f_all yX8_remove YX8_remove pX8_removef :=
  ⟨f_aload_n (n := 0) (e_dx DX8_remove_0 0 rfl) rfl,
  f_iload_n (n := 1) (e_dx DX8_remove_0 1 rfl) rfl,
  x_callV (e_dx DX8_remove_0 2 rfl) mwX8_find vwX8_find cX8_19 rfl,
  f_istore_n (n := 2) (e_dx DX8_remove_0 3 rfl) rfl (by decide),
  f_iload_n (n := 2) (e_dx DX8_remove_0 4 rfl) rfl,
  f_if_ge (e_dx DX8_remove_0 5 rfl) rfl,
  ⟨(e_dx DX8_remove_0 6 rfl), rfl⟩,
  f_aload_n (n := 0) (e_dx DX8_remove_0 7 rfl) rfl,
  f_g20 (e_dx DX8_remove_0 8 rfl),
  f_getf (e_dx DX8_remove_0 9 rfl) fX8_15 rfl (by decide) (by decide) (by decide),
  f_iconst (e_dx DX8_remove_0 10 rfl) ⟨by decide, by decide⟩,
  f_isub (e_dx DX8_remove_0 11 rfl),
  f_putn (e_dx DX8_remove_0 12 rfl) fX8_15 (fun q hq => by cases hq; rfl) rfl (Or.inl rfl) (by decide),
  f_iload_n (n := 2) (e_dx DX8_remove_0 13 rfl) rfl,
  f_istore_n (n := 3) (e_dx DX8_remove_0 14 rfl) rfl (by decide),
  trivial,
  f_iload_n (n := 3) (e_dx DX8_remove_0 15 rfl) rfl,
  f_aload_n (n := 0) (e_dx DX8_remove_0 16 rfl) rfl,
  f_getf (e_dx DX8_remove_0 17 rfl) fX8_15 rfl (by decide) (by decide) (by decide),
  f_icmp_ge (e_dx DX8_remove_0 18 rfl) rfl,
  f_aload_n (n := 0) (e_dx DX8_remove_0 19 rfl) rfl,
  f_getA (e_dx DX8_remove_0 20 rfl) fX8_9 rfl (by decide) (Nat.le_of_ble_eq_true rfl) rfl (by decide),
  f_iload_n (n := 3) (e_dx DX8_remove_0 21 rfl) rfl,
  f_aload_n (n := 0) (e_dx DX8_remove_0 22 rfl) rfl,
  f_getA (e_dx DX8_remove_0 23 rfl) fX8_9 rfl (by decide) (Nat.le_of_ble_eq_true rfl) rfl (by decide),
  f_iload_n (n := 3) (e_dx DX8_remove_0 24 rfl) rfl,
  f_iconst (e_dx DX8_remove_0 25 rfl) ⟨by decide, by decide⟩,
  f_iadd (e_dx DX8_remove_0 26 rfl),
  f_iaload (e_dx DX8_remove_0 27 rfl),
  f_iastore (e_dx DX8_remove_0 28 rfl),
  f_g8 (e_dx DX8_remove_0 29 rfl) ⟨by decide, by decide⟩,
  f_g19 (e_dx DX8_remove_0 30 rfl) rfl,
  ⟨(e_dx DX8_remove_0 31 rfl), rfl⟩, trivial⟩
def lX8_remove (c_X8_find : Nat → Int → e_M → (Int → Prop) → Prop) : List (Nat × f_Wt) := [(0, f_wm [(3, 8, 2), (1, 0, 0)] (fun ar M R => c_X8_find (f_va (f_nth ar 0)) (f_vi (f_nth ar 1)) M (fun r => R (some (.inl r)) M)))]
set_option maxRecDepth 20000 in
theorem BX8_remove_23 {sh : Nat → Nat × Nat} {t : Nat} {rm : Nat × Nat × Nat} {cs : Nat × Nat} {R : f_Rt} {c_X8_find : Nat → Int → e_M → (Int → Prop) → Prop} {k23 : Nat → Int → e_M → Prop} {a0 : Nat} {x3 : Int} {M : e_M} (C : f_Hy sh t yX8_remove rm cs 5 (lX8_remove c_X8_find) R) (h23 : ∀ (a0 : Nat) (x3 : Int) (M : e_M), k23 a0 x3 M → f_E sh t YX8_remove rm cs (f_Q sh t R) 23 [.inr (.inr (.inl (8, 2, a0))), .inr (.inr (.inr ())), .inr (.inr (.inr ())), .inl x3] [] M) (h : VX8_remove_23 c_X8_find k23 (fun M => R none M) a0 x3 M) : f_E sh t YX8_remove rm cs (f_Q sh t R) 23 [.inr (.inr (.inl (8, 2, a0))), .inr (.inr (.inr ())), .inr (.inr (.inr ())), .inl x3] [] M :=
  f_go (KC := f_kc [(23, f_pl [(3, 8, 2), (0, 0, 0), (0, 0, 0), (1, 0, 0)] [] (fun ls st M => k23 (f_va (f_nth ls 0)) (f_vi (f_nth ls 3)) M))]) C qX8_removef (f_kc_cons (f_pl_ok rfl (fun ls st M h => h23 _ _ M h)) f_kc_nil) 35 16 h
set_option maxRecDepth 20000 in
theorem BX8_remove {sh : Nat → Nat × Nat} {t : Nat} {rm : Nat × Nat × Nat} {cs : Nat × Nat} {R : f_Rt} {c_X8_find : Nat → Int → e_M → (Int → Prop) → Prop} {k23 : Nat → Int → e_M → Prop} {a0 : Nat} {x1 : Int} {M : e_M} (C : f_Hy sh t yX8_remove rm cs 5 (lX8_remove c_X8_find) R) (h23 : ∀ (a0 : Nat) (x3 : Int) (M : e_M), k23 a0 x3 M → f_E sh t YX8_remove rm cs (f_Q sh t R) 23 [.inr (.inr (.inl (8, 2, a0))), .inr (.inr (.inr ())), .inr (.inr (.inr ())), .inl x3] [] M) (h : VX8_remove c_X8_find k23 (fun M => R none M) a0 x1 M) : f_E sh t YX8_remove rm cs (f_Q sh t R) 0 [.inr (.inr (.inl (8, 2, a0))), .inl x1, .inr (.inr (.inr ())), .inr (.inr (.inr ()))] [] M :=
  f_go (KC := f_kc [(23, f_pl [(3, 8, 2), (0, 0, 0), (0, 0, 0), (1, 0, 0)] [] (fun ls st M => k23 (f_va (f_nth ls 0)) (f_vi (f_nth ls 3)) M))]) C qX8_removef (f_kc_cons (f_pl_ok rfl (fun ls st M h => h23 _ _ M h)) f_kc_nil) 35 0 h
def WX8_remove_23 (Q : e_M → Prop) : Nat → Nat → Int → e_M → Prop
  | 0, _, _, _ => False
  | n + 1, a0, x3, M =>
    VX8_remove_23 WX8_find (WX8_remove_23 Q n) Q a0 x3 M
def WX8_remove (a0 : Nat) (x1 : Int) (M : e_M) (Q : e_M → Prop) : Prop :=
  VX8_remove WX8_find (fun a0 x3 M => ∃ j, WX8_remove_23 Q j a0 x3 M) Q a0 x1 M
theorem PX8_remove_23 {sh : Nat → Nat × Nat} {t : Nat} {rm : Nat × Nat × Nat} {cs : Nat × Nat} {R : f_Rt} (C : f_Hy sh t yX8_remove rm cs 5 (lX8_remove WX8_find) R) : ∀ (n : Nat) (a0 : Nat) (x3 : Int) (M : e_M), WX8_remove_23 (fun M => R none M) n a0 x3 M → f_E sh t YX8_remove rm cs (f_Q sh t R) 23 [.inr (.inr (.inl (8, 2, a0))), .inr (.inr (.inr ())), .inr (.inr (.inr ())), .inl x3] [] M := by
  intro n
  induction n with
  | zero => intro a0 x3 M h; exact h.elim
  | succ n ih => intro a0 x3 M h; exact BX8_remove_23 C ih h
theorem PX8_remove {sh : Nat → Nat × Nat} {t : Nat} {rm : Nat × Nat × Nat} {cs : Nat × Nat} {R : f_Rt} {a0 : Nat} {x1 : Int} {M : e_M} (C : f_Hy sh t yX8_remove rm cs 5 (lX8_remove WX8_find) R) (h : WX8_remove a0 x1 M (fun M => R none M)) : f_E sh t YX8_remove rm cs (f_Q sh t R) 0 [.inr (.inr (.inl (8, 2, a0))), .inl x1, .inr (.inr (.inr ())), .inr (.inr (.inr ()))] [] M :=
  BX8_remove C (fun a0 x3 M ⟨j, h⟩ => PX8_remove_23 C j _ _ _ h) h
def wX8_remove : f_Wt := f_wm [(3, 8, 2), (1, 0, 0)] (fun ar M R => WX8_remove (f_va (f_nth ar 0)) (f_vi (f_nth ar 1)) M (fun M => R none M))
theorem TX8_remove {sh : Nat → Nat × Nat} {t : Nat} : f_Mt sh t YX8_remove 5 (wX8_remove) :=
  f_Mt_of (k := 2) (Nat.le_of_ble_eq_true rfl) rfl rfl (fun ar M R rm cs h1 h2 h3 hX h => PX8_remove ⟨Nat.le_of_ble_eq_true rfl, h1, h2, h3, ⟨(f_Mt.up (Nat.le_of_ble_eq_true rfl) TX8_find), trivial⟩, hX⟩ h)
def VX8_part_29 (c_X8_find : Nat → Int → e_M → (Int → Prop) → Prop) (c_X8_remove : Nat → Int → e_M → (e_M → Prop) → Prop) (c_X8_insert : Nat → Int → Int → e_M → (e_M → Prop) → Prop) (Q : e_M → Prop) (a0 : Nat) (x2 : Int) (x4 : Int) (M : e_M) : Prop :=
  ((x2 < 0 → (Q M)) ∧ (0 ≤ x2 → (c_X8_insert a0 x4 x2 M (fun M1 => (Q M1)))))
def VX8_part (c_X8_find : Nat → Int → e_M → (Int → Prop) → Prop) (c_X8_remove : Nat → Int → e_M → (e_M → Prop) → Prop) (c_X8_insert : Nat → Int → Int → e_M → (e_M → Prop) → Prop) (k29 : Nat → Int → Int → e_M → Prop) (Q : e_M → Prop) (a0 : Nat) (x1 : Int) (x2 : Int) (x3 : Int) (M : e_M) : Prop :=
  (c_X8_find a0 x1 M (fun r1 => ((0 ≤ r1 → (c_X8_remove a0 x1 M (fun M2 => ((x3 < 0 → (k29 a0 x2 r1 M2)) ∧ (0 ≤ x3 → (c_X8_insert a0 r1 x3 M2 (fun M3 => (k29 a0 x2 r1 M3)))))))) ∧ (r1 < 0 → (Q M)))))
def yX8_part (i : Nat) : e_Y := x_get YX8_part [YX8_find, YX8_remove, YX8_insert] i
def pX8_partf : List x_I := [(0, 4, 1, 0, 0, 0, []), (1, 2, 1, 1, 0, 0, []), (2, 40, 0, 2, 10, 0, []), (5, 5, 2, 4, 0, 0, []), (7, 2, 2, 4, 0, 0, []), (9, 17, 13, 3, 8, 0, []), (12, 44, 0, 0, 0, 0, []), (13, 4, 1, 0, 0, 0, []), (14, 2, 1, 1, 0, 0, []), (15, 40, 1, 2, 10, 0, []), (18, 2, 1, 3, 0, 0, []), (19, 17, 29, 2, 17, 0, []), (22, 4, 1, 0, 0, 0, []), (23, 2, 2, 4, 0, 0, []), (25, 2, 1, 3, 0, 0, []), (26, 40, 2, 3, 10, 0, []), (29, 49, 0, 0, 0, 0, []), (29, 2, 1, 2, 0, 0, []), (30, 17, 40, 2, 24, 0, []), (33, 4, 1, 0, 0, 0, []), (34, 2, 2, 4, 0, 0, []), (36, 2, 1, 2, 0, 0, []), (37, 40, 2, 3, 10, 0, []), (40, 44, 0, 0, 0, 0, [])]
set_option maxRecDepth 20000 in
theorem qX8_partf : f_all yX8_part YX8_part pX8_partf :=
  ⟨f_aload_n (n := 0) (e_dx DX8_part_0 0 rfl) rfl,
  f_iload_n (n := 1) (e_dx DX8_part_0 1 rfl) rfl,
  x_callV (e_dx DX8_part_0 2 rfl) mwX8_find vwX8_find cX8_19 rfl,
  f_istore (e_dx DX8_part_0 3 rfl) (by decide),
  f_iload (e_dx DX8_part_0 4 rfl),
  f_if_ge (e_dx DX8_part_0 5 rfl) rfl,
  ⟨(e_dx DX8_part_0 6 rfl), rfl⟩,
  f_aload_n (n := 0) (e_dx DX8_part_0 7 rfl) rfl,
  f_iload_n (n := 1) (e_dx DX8_part_0 8 rfl) rfl,
  x_callV (e_dx DX8_part_0 9 rfl) mwX8_remove vwX8_remove cX8_31 rfl,
  f_iload_n (n := 3) (e_dx DX8_part_0 10 rfl) rfl,
  f_if_lt (e_dx DX8_part_0 11 rfl) rfl,
  f_aload_n (n := 0) (e_dx DX8_part_0 12 rfl) rfl,
  f_iload (e_dx DX8_part_0 13 rfl),
  f_iload_n (n := 3) (e_dx DX8_part_0 14 rfl) rfl,
  x_callV (e_dx DX8_part_0 15 rfl) mwX8_insert vwX8_insert cX8_23 rfl,
  trivial,
  f_iload_n (n := 2) (e_dx DX8_part_0 16 rfl) rfl,
  f_if_lt (e_dx DX8_part_0 17 rfl) rfl,
  f_aload_n (n := 0) (e_dx DX8_part_0 18 rfl) rfl,
  f_iload (e_dx DX8_part_0 19 rfl),
  f_iload_n (n := 2) (e_dx DX8_part_0 20 rfl) rfl,
  x_callV (e_dx DX8_part_0 21 rfl) mwX8_insert vwX8_insert cX8_23 rfl,
  ⟨(e_dx DX8_part_0 22 rfl), rfl⟩, trivial⟩
def lX8_part (c_X8_find : Nat → Int → e_M → (Int → Prop) → Prop) (c_X8_remove : Nat → Int → e_M → (e_M → Prop) → Prop) (c_X8_insert : Nat → Int → Int → e_M → (e_M → Prop) → Prop) : List (Nat × f_Wt) := [(0, f_wm [(3, 8, 2), (1, 0, 0)] (fun ar M R => c_X8_find (f_va (f_nth ar 0)) (f_vi (f_nth ar 1)) M (fun r => R (some (.inl r)) M))), (1, f_wm [(3, 8, 2), (1, 0, 0)] (fun ar M R => c_X8_remove (f_va (f_nth ar 0)) (f_vi (f_nth ar 1)) M (fun M => R none M))), (2, f_wm [(3, 8, 2), (1, 0, 0), (1, 0, 0)] (fun ar M R => c_X8_insert (f_va (f_nth ar 0)) (f_vi (f_nth ar 1)) (f_vi (f_nth ar 2)) M (fun M => R none M)))]
set_option maxRecDepth 20000 in
theorem BX8_part_29 {sh : Nat → Nat × Nat} {t : Nat} {rm : Nat × Nat × Nat} {cs : Nat × Nat} {R : f_Rt} {c_X8_find : Nat → Int → e_M → (Int → Prop) → Prop} {c_X8_remove : Nat → Int → e_M → (e_M → Prop) → Prop} {c_X8_insert : Nat → Int → Int → e_M → (e_M → Prop) → Prop} {a0 : Nat} {x2 : Int} {x4 : Int} {M : e_M} (C : f_Hy sh t yX8_part rm cs 6 (lX8_part c_X8_find c_X8_remove c_X8_insert) R) (h : VX8_part_29 c_X8_find c_X8_remove c_X8_insert (fun M => R none M) a0 x2 x4 M) : f_E sh t YX8_part rm cs (f_Q sh t R) 29 [.inr (.inr (.inl (8, 2, a0))), .inr (.inr (.inr ())), .inl x2, .inr (.inr (.inr ())), .inl x4] [] M :=
  f_go (KC := f_kc []) C qX8_partf f_kc_nil 26 17 h
set_option maxRecDepth 20000 in
theorem BX8_part {sh : Nat → Nat × Nat} {t : Nat} {rm : Nat × Nat × Nat} {cs : Nat × Nat} {R : f_Rt} {c_X8_find : Nat → Int → e_M → (Int → Prop) → Prop} {c_X8_remove : Nat → Int → e_M → (e_M → Prop) → Prop} {c_X8_insert : Nat → Int → Int → e_M → (e_M → Prop) → Prop} {k29 : Nat → Int → Int → e_M → Prop} {a0 : Nat} {x1 : Int} {x2 : Int} {x3 : Int} {M : e_M} (C : f_Hy sh t yX8_part rm cs 6 (lX8_part c_X8_find c_X8_remove c_X8_insert) R) (h29 : ∀ (a0 : Nat) (x2 : Int) (x4 : Int) (M : e_M), k29 a0 x2 x4 M → f_E sh t YX8_part rm cs (f_Q sh t R) 29 [.inr (.inr (.inl (8, 2, a0))), .inr (.inr (.inr ())), .inl x2, .inr (.inr (.inr ())), .inl x4] [] M) (h : VX8_part c_X8_find c_X8_remove c_X8_insert k29 (fun M => R none M) a0 x1 x2 x3 M) : f_E sh t YX8_part rm cs (f_Q sh t R) 0 [.inr (.inr (.inl (8, 2, a0))), .inl x1, .inl x2, .inl x3, .inr (.inr (.inr ()))] [] M :=
  f_go (KC := f_kc [(29, f_pl [(3, 8, 2), (0, 0, 0), (1, 0, 0), (0, 0, 0), (1, 0, 0)] [] (fun ls st M => k29 (f_va (f_nth ls 0)) (f_vi (f_nth ls 2)) (f_vi (f_nth ls 4)) M))]) C qX8_partf (f_kc_cons (f_pl_ok rfl (fun ls st M h => h29 _ _ _ M h)) f_kc_nil) 26 0 h
def WX8_part_29 (Q : e_M → Prop) (a0 : Nat) (x2 : Int) (x4 : Int) (M : e_M) : Prop :=
  VX8_part_29 WX8_find WX8_remove WX8_insert Q a0 x2 x4 M
def WX8_part (a0 : Nat) (x1 : Int) (x2 : Int) (x3 : Int) (M : e_M) (Q : e_M → Prop) : Prop :=
  VX8_part WX8_find WX8_remove WX8_insert (WX8_part_29 Q) Q a0 x1 x2 x3 M
theorem PX8_part_29 {sh : Nat → Nat × Nat} {t : Nat} {rm : Nat × Nat × Nat} {cs : Nat × Nat} {R : f_Rt} {a0 : Nat} {x2 : Int} {x4 : Int} {M : e_M} (C : f_Hy sh t yX8_part rm cs 6 (lX8_part WX8_find WX8_remove WX8_insert) R) (h : WX8_part_29 (fun M => R none M) a0 x2 x4 M) : f_E sh t YX8_part rm cs (f_Q sh t R) 29 [.inr (.inr (.inl (8, 2, a0))), .inr (.inr (.inr ())), .inl x2, .inr (.inr (.inr ())), .inl x4] [] M :=
  BX8_part_29 C h
theorem PX8_part {sh : Nat → Nat × Nat} {t : Nat} {rm : Nat × Nat × Nat} {cs : Nat × Nat} {R : f_Rt} {a0 : Nat} {x1 : Int} {x2 : Int} {x3 : Int} {M : e_M} (C : f_Hy sh t yX8_part rm cs 6 (lX8_part WX8_find WX8_remove WX8_insert) R) (h : WX8_part a0 x1 x2 x3 M (fun M => R none M)) : f_E sh t YX8_part rm cs (f_Q sh t R) 0 [.inr (.inr (.inl (8, 2, a0))), .inl x1, .inl x2, .inl x3, .inr (.inr (.inr ()))] [] M :=
  BX8_part C (fun a0 x2 x4 M h => PX8_part_29 C h) h
def wX8_part : f_Wt := f_wm [(3, 8, 2), (1, 0, 0), (1, 0, 0), (1, 0, 0)] (fun ar M R => WX8_part (f_va (f_nth ar 0)) (f_vi (f_nth ar 1)) (f_vi (f_nth ar 2)) (f_vi (f_nth ar 3)) M (fun M => R none M))
theorem TX8_part {sh : Nat → Nat × Nat} {t : Nat} : f_Mt sh t YX8_part 6 (wX8_part) :=
  f_Mt_of (k := 1) (Nat.le_of_ble_eq_true rfl) rfl rfl (fun ar M R rm cs h1 h2 h3 hX h => PX8_part ⟨Nat.le_of_ble_eq_true rfl, h1, h2, h3, ⟨(f_Mt.up (Nat.le_of_ble_eq_true rfl) TX8_find), (f_Mt.up (Nat.le_of_ble_eq_true rfl) TX8_remove), (f_Mt.up (Nat.le_of_ble_eq_true rfl) TX8_insert), trivial⟩, hX⟩ h)
def VX0_partOver_47 (c_X8_has : Nat → Int → e_M → (Int → Prop) → Prop) (c_X3_holdsAny : Nat → Nat → e_M → (Int → Prop) → Prop) (c_X8_part : Nat → Int → Int → Int → e_M → (e_M → Prop) → Prop) (k58 : Int → Int → Int → Nat → e_M → Prop) (Q : e_M → Prop) (x5 : Int) (x7 : Int) (xs2 : Int) (xs1 : Int) (as0 : Nat) (M : e_M) : Prop :=
  ((x7 = 0 → (k58 (-1) xs2 xs1 as0 M)) ∧ (¬ x7 = 0 → (k58 x5 xs2 xs1 as0 M)))
def VX0_partOver_58 (c_X8_has : Nat → Int → e_M → (Int → Prop) → Prop) (c_X3_holdsAny : Nat → Nat → e_M → (Int → Prop) → Prop) (c_X8_part : Nat → Int → Int → Int → e_M → (e_M → Prop) → Prop) (Q : e_M → Prop) (xs3 : Int) (xs2 : Int) (xs1 : Int) (as0 : Nat) (M : e_M) : Prop :=
  (c_X8_part as0 xs1 xs2 xs3 M (fun M1 => (Q M1)))
def VX0_partOver (c_X8_has : Nat → Int → e_M → (Int → Prop) → Prop) (c_X3_holdsAny : Nat → Nat → e_M → (Int → Prop) → Prop) (c_X8_part : Nat → Int → Int → Int → e_M → (e_M → Prop) → Prop) (k47 : Int → Int → Int → Int → Nat → e_M → Prop) (Q : e_M → Prop) (a1 : Nat) (a2 : Nat) (x3 : Int) (x4 : Int) (x5 : Int) (M : e_M) : Prop :=
  (c_X8_has a1 x3 M (fun r1 => ((r1 = 0 → (Q M)) ∧ (¬ r1 = 0 → (c_X3_holdsAny 4427 a2 M (fun r2 => (c_X3_holdsAny 4430 a2 M (fun r3 => ((r2 = 0 → (k47 x5 r3 (-1) x3 a1 M)) ∧ (¬ r2 = 0 → (k47 x5 r3 x4 x3 a1 M)))))))))))
def yX0_partOver (i : Nat) : e_Y := x_get YX0_partOver [YX8_has, YX3_holdsAny, YX8_part] i
def pX0_partOverf : List x_I := [(0, 4, 1, 1, 0, 0, []), (1, 2, 1, 3, 0, 0, []), (2, 40, 0, 2, 10, 0, []), (5, 17, 61, 0, 32, 0, []), (8, 4, 1, 0, 0, 0, []), (9, 25, 0, 5, 4, 0, [(0, 5, 12), (0, 1, 3)]), (12, 25, 5, 0, 4, 0, [(0, 3, 3), (0, 1, 1)]), (15, 4, 1, 2, 0, 0, []), (16, 40, 1, 2, 5, 0, []), (19, 5, 2, 6, 0, 0, []), (21, 4, 1, 0, 0, 0, []), (22, 25, 0, 5, 4, 0, [(0, 5, 12), (0, 1, 3)]), (25, 25, 5, 1, 4, 0, [(0, 3, 3), (0, 1, 4)]), (28, 4, 1, 2, 0, 0, []), (29, 40, 1, 2, 5, 0, []), (32, 5, 2, 7, 0, 0, []), (34, 4, 1, 1, 0, 0, []), (35, 2, 1, 3, 0, 0, []), (36, 2, 2, 6, 0, 0, []), (38, 17, 46, 0, 23, 0, []), (41, 2, 2, 4, 0, 0, []), (43, 19, 47, 0, 24, 0, []), (46, 0, 1, 0, 0, (-1), []), (47, 49, 0, 0, 0, 0, []), (47, 2, 2, 7, 0, 0, []), (49, 17, 57, 0, 29, 0, []), (52, 2, 2, 5, 0, 0, []), (54, 19, 58, 0, 30, 0, []), (57, 0, 1, 0, 0, (-1), []), (58, 49, 0, 0, 0, 0, []), (58, 40, 2, 4, 10, 0, []), (61, 44, 0, 0, 0, 0, [])]
set_option maxRecDepth 20000 in
theorem qX0_partOverf : f_all yX0_partOver YX0_partOver pX0_partOverf :=
  ⟨f_aload_n (n := 1) (e_dx DX0_partOver_0 0 rfl) rfl,
  f_iload_n (n := 3) (e_dx DX0_partOver_0 1 rfl) rfl,
  x_callV (e_dx DX0_partOver_0 2 rfl) mwX8_has vwX8_has cX0_183 rfl,
  f_if_eq (e_dx DX0_partOver_0 3 rfl) rfl,
  f_aload_n (n := 0) (e_dx DX0_partOver_0 4 rfl) rfl,
  f_getA (e_dx DX0_partOver_0 5 rfl) fX0_25 rfl (by decide) (Nat.le_of_ble_eq_true rfl) rfl (by decide),
  f_getA (e_dx DX0_partOver_0 6 rfl) fX0_313 rfl (by decide) (Nat.le_of_ble_eq_true rfl) rfl (by decide),
  f_aload_n (n := 2) (e_dx DX0_partOver_0 7 rfl) rfl,
  x_callV (e_dx DX0_partOver_0 8 rfl) mwX3_holdsAny vwX3_holdsAny cX0_332 rfl,
  f_istore (e_dx DX0_partOver_0 9 rfl) (by decide),
  f_aload_n (n := 0) (e_dx DX0_partOver_0 10 rfl) rfl,
  f_getA (e_dx DX0_partOver_0 11 rfl) fX0_25 rfl (by decide) (Nat.le_of_ble_eq_true rfl) rfl (by decide),
  f_getA (e_dx DX0_partOver_0 12 rfl) fX0_320 rfl (by decide) (Nat.le_of_ble_eq_true rfl) rfl (by decide),
  f_aload_n (n := 2) (e_dx DX0_partOver_0 13 rfl) rfl,
  x_callV (e_dx DX0_partOver_0 14 rfl) mwX3_holdsAny vwX3_holdsAny cX0_332 rfl,
  f_istore (e_dx DX0_partOver_0 15 rfl) (by decide),
  f_aload_n (n := 1) (e_dx DX0_partOver_0 16 rfl) rfl,
  f_iload_n (n := 3) (e_dx DX0_partOver_0 17 rfl) rfl,
  f_iload (e_dx DX0_partOver_0 18 rfl),
  f_if_eq (e_dx DX0_partOver_0 19 rfl) rfl,
  f_iload (e_dx DX0_partOver_0 20 rfl),
  f_g19 (e_dx DX0_partOver_0 21 rfl) rfl,
  f_iconst (e_dx DX0_partOver_0 22 rfl) ⟨by decide, by decide⟩,
  trivial,
  f_iload (e_dx DX0_partOver_0 23 rfl),
  f_if_eq (e_dx DX0_partOver_0 24 rfl) rfl,
  f_iload (e_dx DX0_partOver_0 25 rfl),
  f_g19 (e_dx DX0_partOver_0 26 rfl) rfl,
  f_iconst (e_dx DX0_partOver_0 27 rfl) ⟨by decide, by decide⟩,
  trivial,
  x_callV (e_dx DX0_partOver_0 28 rfl) mwX8_part vwX8_part cX0_323 rfl,
  ⟨(e_dx DX0_partOver_0 29 rfl), rfl⟩, trivial⟩
def lX0_partOver (c_X8_has : Nat → Int → e_M → (Int → Prop) → Prop) (c_X3_holdsAny : Nat → Nat → e_M → (Int → Prop) → Prop) (c_X8_part : Nat → Int → Int → Int → e_M → (e_M → Prop) → Prop) : List (Nat × f_Wt) := [(0, f_wm [(3, 8, 2), (1, 0, 0)] (fun ar M R => c_X8_has (f_va (f_nth ar 0)) (f_vi (f_nth ar 1)) M (fun r => R (some (.inl r)) M))), (1, f_wm [(3, 3, 3), (3, 2, 19)] (fun ar M R => c_X3_holdsAny (f_va (f_nth ar 0)) (f_va (f_nth ar 1)) M (fun r => R (some (.inl r)) M))), (2, f_wm [(3, 8, 2), (1, 0, 0), (1, 0, 0), (1, 0, 0)] (fun ar M R => c_X8_part (f_va (f_nth ar 0)) (f_vi (f_nth ar 1)) (f_vi (f_nth ar 2)) (f_vi (f_nth ar 3)) M (fun M => R none M)))]
set_option maxRecDepth 20000 in
theorem BX0_partOver_47 {sh : Nat → Nat × Nat} {t : Nat} {rm : Nat × Nat × Nat} {cs : Nat × Nat} {R : f_Rt} {c_X8_has : Nat → Int → e_M → (Int → Prop) → Prop} {c_X3_holdsAny : Nat → Nat → e_M → (Int → Prop) → Prop} {c_X8_part : Nat → Int → Int → Int → e_M → (e_M → Prop) → Prop} {k58 : Int → Int → Int → Nat → e_M → Prop} {x5 : Int} {x7 : Int} {xs2 : Int} {xs1 : Int} {as0 : Nat} {M : e_M} (C : f_Hy sh t yX0_partOver rm cs 7 (lX0_partOver c_X8_has c_X3_holdsAny c_X8_part) R) (h58 : ∀ (xs3 : Int) (xs2 : Int) (xs1 : Int) (as0 : Nat) (M : e_M), k58 xs3 xs2 xs1 as0 M → f_E sh t YX0_partOver rm cs (f_Q sh t R) 58 [.inr (.inr (.inr ())), .inr (.inr (.inr ())), .inr (.inr (.inr ())), .inr (.inr (.inr ())), .inr (.inr (.inr ())), .inr (.inr (.inr ())), .inr (.inr (.inr ())), .inr (.inr (.inr ()))] [.inl xs3, .inl xs2, .inl xs1, .inr (.inr (.inl (8, 2, as0)))] M) (h : VX0_partOver_47 c_X8_has c_X3_holdsAny c_X8_part k58 (fun M => R none M) x5 x7 xs2 xs1 as0 M) : f_E sh t YX0_partOver rm cs (f_Q sh t R) 47 [.inr (.inr (.inr ())), .inr (.inr (.inr ())), .inr (.inr (.inr ())), .inr (.inr (.inr ())), .inr (.inr (.inr ())), .inl x5, .inr (.inr (.inr ())), .inl x7] [.inl xs2, .inl xs1, .inr (.inr (.inl (8, 2, as0)))] M :=
  f_go (KC := f_kc [(58, f_pl [(0, 0, 0), (0, 0, 0), (0, 0, 0), (0, 0, 0), (0, 0, 0), (0, 0, 0), (0, 0, 0), (0, 0, 0)] [(1, 0, 0), (1, 0, 0), (1, 0, 0), (3, 8, 2)] (fun ls st M => k58 (f_vi (f_nth st 0)) (f_vi (f_nth st 1)) (f_vi (f_nth st 2)) (f_va (f_nth st 3)) M))]) C qX0_partOverf (f_kc_cons (f_pl_ok rfl (fun ls st M h => h58 _ _ _ _ M h)) f_kc_nil) 34 24 h
set_option maxRecDepth 20000 in
theorem BX0_partOver_58 {sh : Nat → Nat × Nat} {t : Nat} {rm : Nat × Nat × Nat} {cs : Nat × Nat} {R : f_Rt} {c_X8_has : Nat → Int → e_M → (Int → Prop) → Prop} {c_X3_holdsAny : Nat → Nat → e_M → (Int → Prop) → Prop} {c_X8_part : Nat → Int → Int → Int → e_M → (e_M → Prop) → Prop} {xs3 : Int} {xs2 : Int} {xs1 : Int} {as0 : Nat} {M : e_M} (C : f_Hy sh t yX0_partOver rm cs 7 (lX0_partOver c_X8_has c_X3_holdsAny c_X8_part) R) (h : VX0_partOver_58 c_X8_has c_X3_holdsAny c_X8_part (fun M => R none M) xs3 xs2 xs1 as0 M) : f_E sh t YX0_partOver rm cs (f_Q sh t R) 58 [.inr (.inr (.inr ())), .inr (.inr (.inr ())), .inr (.inr (.inr ())), .inr (.inr (.inr ())), .inr (.inr (.inr ())), .inr (.inr (.inr ())), .inr (.inr (.inr ())), .inr (.inr (.inr ()))] [.inl xs3, .inl xs2, .inl xs1, .inr (.inr (.inl (8, 2, as0)))] M :=
  f_go (KC := f_kc []) C qX0_partOverf f_kc_nil 34 30 h
set_option maxRecDepth 20000 in
theorem BX0_partOver {sh : Nat → Nat × Nat} {t : Nat} {rm : Nat × Nat × Nat} {cs : Nat × Nat} {R : f_Rt} {c_X8_has : Nat → Int → e_M → (Int → Prop) → Prop} {c_X3_holdsAny : Nat → Nat → e_M → (Int → Prop) → Prop} {c_X8_part : Nat → Int → Int → Int → e_M → (e_M → Prop) → Prop} {k47 : Int → Int → Int → Int → Nat → e_M → Prop} {a1 : Nat} {a2 : Nat} {x3 : Int} {x4 : Int} {x5 : Int} {M : e_M} (C : f_Hy sh t yX0_partOver rm cs 7 (lX0_partOver c_X8_has c_X3_holdsAny c_X8_part) R) (h47 : ∀ (x5 : Int) (x7 : Int) (xs2 : Int) (xs1 : Int) (as0 : Nat) (M : e_M), k47 x5 x7 xs2 xs1 as0 M → f_E sh t YX0_partOver rm cs (f_Q sh t R) 47 [.inr (.inr (.inr ())), .inr (.inr (.inr ())), .inr (.inr (.inr ())), .inr (.inr (.inr ())), .inr (.inr (.inr ())), .inl x5, .inr (.inr (.inr ())), .inl x7] [.inl xs2, .inl xs1, .inr (.inr (.inl (8, 2, as0)))] M) (h : VX0_partOver c_X8_has c_X3_holdsAny c_X8_part k47 (fun M => R none M) a1 a2 x3 x4 x5 M) : f_E sh t YX0_partOver rm cs (f_Q sh t R) 0 [.inr (.inr (.inl (0, 7, 4423))), .inr (.inr (.inl (8, 2, a1))), .inr (.inr (.inl (2, 19, a2))), .inl x3, .inl x4, .inl x5, .inr (.inr (.inr ())), .inr (.inr (.inr ()))] [] M :=
  f_go (KC := f_kc [(47, f_pl [(0, 0, 0), (0, 0, 0), (0, 0, 0), (0, 0, 0), (0, 0, 0), (1, 0, 0), (0, 0, 0), (1, 0, 0)] [(1, 0, 0), (1, 0, 0), (3, 8, 2)] (fun ls st M => k47 (f_vi (f_nth ls 5)) (f_vi (f_nth ls 7)) (f_vi (f_nth st 0)) (f_vi (f_nth st 1)) (f_va (f_nth st 2)) M))]) C qX0_partOverf (f_kc_cons (f_pl_ok rfl (fun ls st M h => h47 _ _ _ _ _ M h)) f_kc_nil) 34 0 h
def WX0_partOver_58 (Q : e_M → Prop) (xs3 : Int) (xs2 : Int) (xs1 : Int) (as0 : Nat) (M : e_M) : Prop :=
  VX0_partOver_58 WX8_has WX3_holdsAny WX8_part Q xs3 xs2 xs1 as0 M
def WX0_partOver_47 (Q : e_M → Prop) (x5 : Int) (x7 : Int) (xs2 : Int) (xs1 : Int) (as0 : Nat) (M : e_M) : Prop :=
  VX0_partOver_47 WX8_has WX3_holdsAny WX8_part (WX0_partOver_58 Q) Q x5 x7 xs2 xs1 as0 M
def WX0_partOver (a1 : Nat) (a2 : Nat) (x3 : Int) (x4 : Int) (x5 : Int) (M : e_M) (Q : e_M → Prop) : Prop :=
  VX0_partOver WX8_has WX3_holdsAny WX8_part (WX0_partOver_47 Q) Q a1 a2 x3 x4 x5 M
theorem PX0_partOver_58 {sh : Nat → Nat × Nat} {t : Nat} {rm : Nat × Nat × Nat} {cs : Nat × Nat} {R : f_Rt} {xs3 : Int} {xs2 : Int} {xs1 : Int} {as0 : Nat} {M : e_M} (C : f_Hy sh t yX0_partOver rm cs 7 (lX0_partOver WX8_has WX3_holdsAny WX8_part) R) (h : WX0_partOver_58 (fun M => R none M) xs3 xs2 xs1 as0 M) : f_E sh t YX0_partOver rm cs (f_Q sh t R) 58 [.inr (.inr (.inr ())), .inr (.inr (.inr ())), .inr (.inr (.inr ())), .inr (.inr (.inr ())), .inr (.inr (.inr ())), .inr (.inr (.inr ())), .inr (.inr (.inr ())), .inr (.inr (.inr ()))] [.inl xs3, .inl xs2, .inl xs1, .inr (.inr (.inl (8, 2, as0)))] M :=
  BX0_partOver_58 C h
theorem PX0_partOver_47 {sh : Nat → Nat × Nat} {t : Nat} {rm : Nat × Nat × Nat} {cs : Nat × Nat} {R : f_Rt} {x5 : Int} {x7 : Int} {xs2 : Int} {xs1 : Int} {as0 : Nat} {M : e_M} (C : f_Hy sh t yX0_partOver rm cs 7 (lX0_partOver WX8_has WX3_holdsAny WX8_part) R) (h : WX0_partOver_47 (fun M => R none M) x5 x7 xs2 xs1 as0 M) : f_E sh t YX0_partOver rm cs (f_Q sh t R) 47 [.inr (.inr (.inr ())), .inr (.inr (.inr ())), .inr (.inr (.inr ())), .inr (.inr (.inr ())), .inr (.inr (.inr ())), .inl x5, .inr (.inr (.inr ())), .inl x7] [.inl xs2, .inl xs1, .inr (.inr (.inl (8, 2, as0)))] M :=
  BX0_partOver_47 C (fun xs3 xs2 xs1 as0 M h => PX0_partOver_58 C h) h
theorem PX0_partOver {sh : Nat → Nat × Nat} {t : Nat} {rm : Nat × Nat × Nat} {cs : Nat × Nat} {R : f_Rt} {a1 : Nat} {a2 : Nat} {x3 : Int} {x4 : Int} {x5 : Int} {M : e_M} (C : f_Hy sh t yX0_partOver rm cs 7 (lX0_partOver WX8_has WX3_holdsAny WX8_part) R) (h : WX0_partOver a1 a2 x3 x4 x5 M (fun M => R none M)) : f_E sh t YX0_partOver rm cs (f_Q sh t R) 0 [.inr (.inr (.inl (0, 7, 4423))), .inr (.inr (.inl (8, 2, a1))), .inr (.inr (.inl (2, 19, a2))), .inl x3, .inl x4, .inl x5, .inr (.inr (.inr ())), .inr (.inr (.inr ()))] [] M :=
  BX0_partOver C (fun x5 x7 xs2 xs1 as0 M h => PX0_partOver_47 C h) h
def wX0_partOver : f_Wt := f_wm [(4433, 0, 7), (3, 8, 2), (3, 2, 19), (1, 0, 0), (1, 0, 0), (1, 0, 0)] (fun ar M R => WX0_partOver (f_va (f_nth ar 1)) (f_va (f_nth ar 2)) (f_vi (f_nth ar 3)) (f_vi (f_nth ar 4)) (f_vi (f_nth ar 5)) M (fun M => R none M))
theorem TX0_partOver {sh : Nat → Nat × Nat} {t : Nat} : f_Mt sh t YX0_partOver 7 (wX0_partOver) :=
  f_Mt_of (k := 2) (Nat.le_of_ble_eq_true rfl) rfl rfl (fun ar M R rm cs h1 h2 h3 hX h => PX0_partOver ⟨Nat.le_of_ble_eq_true rfl, h1, h2, h3, ⟨(f_Mt.up (Nat.le_of_ble_eq_true rfl) TX8_has), (f_Mt.up (Nat.le_of_ble_eq_true rfl) TX3_holdsAny), (f_Mt.up (Nat.le_of_ble_eq_true rfl) TX8_part), trivial⟩, hX⟩ h)
def VX0_split_140 (c_X10_lot : Nat → Int → e_M → (Nat → Prop) → Prop) (c_X0_areOwnersAble : Int → e_M → (Int → Prop) → Prop) (c_X0_isBarred : Int → Int → e_M → (Int → Prop) → Prop) (c_X5_cut : Nat → Nat → e_M → (Int → e_M → Prop) → Prop) (c_X0_isSplitTooMany : Int → e_M → (Int → Prop) → Prop) (c_X0_makeLot : Int → Nat → Nat → e_M → (Int → e_M → Prop) → Prop) (c_X10_at : Nat → Int → Int → e_M → (Nat → Prop) → Prop) (c_X9_isThere : Nat → Int → e_M → (Int → Prop) → Prop) (c_X8_part : Nat → Int → Int → Int → e_M → (e_M → Prop) → Prop) (c_X0_partOver : Nat → Nat → Int → Int → Int → e_M → (e_M → Prop) → Prop) (k150 : Int → Int → Int → Int → Int → e_M → Prop) (Q : Int → e_M → Prop) (x1 : Int) (x3 : Int) (x4 : Int) (x5 : Int) (M : e_M) : Prop :=
  ((6 < x5 → (Q 0 M)) ∧ (x5 ≤ 6 → (k150 x1 x3 x4 x5 0 M)))
def VX0_split_150 (c_X10_lot : Nat → Int → e_M → (Nat → Prop) → Prop) (c_X0_areOwnersAble : Int → e_M → (Int → Prop) → Prop) (c_X0_isBarred : Int → Int → e_M → (Int → Prop) → Prop) (c_X5_cut : Nat → Nat → e_M → (Int → e_M → Prop) → Prop) (c_X0_isSplitTooMany : Int → e_M → (Int → Prop) → Prop) (c_X0_makeLot : Int → Nat → Nat → e_M → (Int → e_M → Prop) → Prop) (c_X10_at : Nat → Int → Int → e_M → (Nat → Prop) → Prop) (c_X9_isThere : Nat → Int → e_M → (Int → Prop) → Prop) (c_X8_part : Nat → Int → Int → Int → e_M → (e_M → Prop) → Prop) (c_X0_partOver : Nat → Nat → Int → Int → Int → e_M → (e_M → Prop) → Prop) (k140 : Int → Int → Int → Int → e_M → Prop) (k223 : Int → Int → Int → Int → Int → e_M → Prop) (Q : Int → e_M → Prop) (x1 : Int) (x3 : Int) (x4 : Int) (x5 : Int) (x6 : Int) (M : e_M) : Prop :=
  ((0 ≤ x5 ∧ x5 < 8) ∧ (((M ((M 4423 0).toNat + 24) (x5.toNat)) ≤ x6 → (k140 x1 x3 x4 (e_w32 (x5 + 1)) M)) ∧ (x6 < (M ((M 4423 0).toNat + 24) (x5.toNat)) → (c_X10_at ((M 4423 0).toNat) x5 x6 M (fun r1 => (c_X9_isThere r1 (M ((M 4423 0).toNat) 11) M (fun r2 => ((r2 = 0 → (k223 x1 x3 x4 x5 x6 M)) ∧ (¬ r2 = 0 → (c_X8_part ((M r1 9).toNat) x1 x3 x4 M (fun M3 => (c_X0_partOver ((M3 r1 10).toNat) ((M3 r1 11).toNat) x1 x3 x4 M3 (fun M4 => (k223 x1 x3 x4 x5 x6 M4))))))))))))))
def VX0_split_223 (c_X10_lot : Nat → Int → e_M → (Nat → Prop) → Prop) (c_X0_areOwnersAble : Int → e_M → (Int → Prop) → Prop) (c_X0_isBarred : Int → Int → e_M → (Int → Prop) → Prop) (c_X5_cut : Nat → Nat → e_M → (Int → e_M → Prop) → Prop) (c_X0_isSplitTooMany : Int → e_M → (Int → Prop) → Prop) (c_X0_makeLot : Int → Nat → Nat → e_M → (Int → e_M → Prop) → Prop) (c_X10_at : Nat → Int → Int → e_M → (Nat → Prop) → Prop) (c_X9_isThere : Nat → Int → e_M → (Int → Prop) → Prop) (c_X8_part : Nat → Int → Int → Int → e_M → (e_M → Prop) → Prop) (c_X0_partOver : Nat → Nat → Int → Int → Int → e_M → (e_M → Prop) → Prop) (k150 : Int → Int → Int → Int → Int → e_M → Prop) (Q : Int → e_M → Prop) (x1 : Int) (x3 : Int) (x4 : Int) (x5 : Int) (x6 : Int) (M : e_M) : Prop :=
  (k150 x1 x3 x4 x5 (e_w32 (x6 + 1)) M)
def VX0_split (c_X10_lot : Nat → Int → e_M → (Nat → Prop) → Prop) (c_X0_areOwnersAble : Int → e_M → (Int → Prop) → Prop) (c_X0_isBarred : Int → Int → e_M → (Int → Prop) → Prop) (c_X5_cut : Nat → Nat → e_M → (Int → e_M → Prop) → Prop) (c_X0_isSplitTooMany : Int → e_M → (Int → Prop) → Prop) (c_X0_makeLot : Int → Nat → Nat → e_M → (Int → e_M → Prop) → Prop) (c_X10_at : Nat → Int → Int → e_M → (Nat → Prop) → Prop) (c_X9_isThere : Nat → Int → e_M → (Int → Prop) → Prop) (c_X8_part : Nat → Int → Int → Int → e_M → (e_M → Prop) → Prop) (c_X0_partOver : Nat → Nat → Int → Int → Int → e_M → (e_M → Prop) → Prop) (k140 : Int → Int → Int → Int → e_M → Prop) (Q : Int → e_M → Prop) (M : e_M) : Prop :=
  ((0 ≤ (0 : Int) ∧ (0 : Int) < 8) ∧ (c_X10_lot ((M 4423 0).toNat) (M 4425 ((0 : Int).toNat)) M (fun r1 => (c_X0_areOwnersAble (M 4425 ((0 : Int).toNat)) M (fun r2 => ((¬ r2 = 0 → (c_X0_isBarred (M 4425 ((0 : Int).toNat)) (-1) M (fun r3 => ((r3 = 0 → (c_X5_cut (r1 + 1) ((M 4423 1).toNat) M (fun r4 M5 => ((¬ r4 = 0 → ((0 ≤ (0 : Int) ∧ (0 : Int) < 8) ∧ ((0 ≤ (0 : Int) ∧ (0 : Int) < 8) ∧ (((f_kt 1000001 ((0 : Int).toNat)) < (e_w32 ((M5 ((M5 4423 0).toNat + 24) ((0 : Int).toNat)) + 2)) → (Q 7 M5)) ∧ ((e_w32 ((M5 ((M5 4423 0).toNat + 24) ((0 : Int).toNat)) + 2)) ≤ (f_kt 1000001 ((0 : Int).toNat)) → (c_X0_isSplitTooMany (M 4425 ((0 : Int).toNat)) M5 (fun r6 => ((r6 = 0 → ((0 ≤ (1 : Int) ∧ (1 : Int) < 8) ∧ (c_X0_makeLot (M5 ((M5 4423 1).toNat + 1) ((1 : Int).toNat)) r1 4427 M5 (fun r7 M8 => ((0 ≤ (2 : Int) ∧ (2 : Int) < 8) ∧ (c_X0_makeLot (M8 ((M8 4423 1).toNat + 1) ((2 : Int).toNat)) r1 4430 M8 (fun r9 M10 => (((1 : Int) = 0 ∨ (1 : Int) = 1) ∧ (∀ M11 : e_M, M11 = e_up M10 r1 1 1 → (k140 (M 4425 ((0 : Int).toNat)) r7 r9 2 M11)))))))))) ∧ (¬ r6 = 0 → (Q 7 M5)))))))))) ∧ (r4 = 0 → (Q 3 M5)))))) ∧ (¬ r3 = 0 → (Q 4 M)))))) ∧ (r2 = 0 → (Q 2 M))))))))
def yX0_split (i : Nat) : e_Y := x_get YX0_split [YX10_lot, YX0_areOwnersAble, YX0_isBarred, YX5_cut, YX0_isSplitTooMany, YX0_makeLot, YX10_at, YX9_isThere, YX8_part, YX0_partOver] i
def pX0_splitf : List x_I := [(0, 4, 1, 0, 0, 0, []), (1, 25, 0, 4, 4, 0, [(0, 20, 8), (0, 1, 2)]), (4, 0, 1, 0, 0, 0, []), (5, 27, 0, 0, 0, 0, []), (6, 5, 1, 1, 0, 0, []), (7, 4, 1, 0, 0, 0, []), (8, 25, 0, 0, 4, 0, [(0, 10, 15), (0, 0, 0)]), (11, 2, 1, 1, 0, 0, []), (12, 40, 0, 2, 12, 0, []), (15, 7, 1, 2, 0, 0, []), (16, 4, 1, 0, 0, 0, []), (17, 2, 1, 1, 0, 0, []), (18, 40, 1, 2, 2, 0, []), (21, 17, 26, 1, 17, 0, []), (24, 0, 1, 0, 0, 2, []), (25, 41, 0, 0, 0, 0, []), (26, 4, 1, 0, 0, 0, []), (27, 2, 1, 1, 0, 0, []), (28, 0, 1, 0, 0, (-1), []), (29, 40, 2, 3, 2, 0, []), (32, 17, 37, 0, 24, 0, []), (35, 0, 1, 0, 0, 4, []), (36, 41, 0, 0, 0, 0, []), (37, 4, 1, 0, 0, 0, []), (38, 25, 0, 5, 4, 0, [(0, 5, 12), (0, 1, 3)]), (41, 4, 1, 2, 0, 0, []), (42, 25, 4, 3, 4, 0, [(0, 3, 3), (0, 1, 1)]), (45, 4, 1, 0, 0, 0, []), (46, 25, 0, 1, 4, 0, [(0, 2, 19), (0, 0, 0)]), (49, 40, 3, 3, 7, 0, []), (52, 17, 57, 1, 34, 0, []), (55, 0, 1, 0, 0, 3, []), (56, 41, 0, 0, 0, 0, []), (57, 4, 1, 0, 0, 0, []), (58, 25, 0, 0, 4, 0, [(0, 10, 15), (0, 0, 0)]), (61, 25, 10, 4, 4, 0, [(0, 20, 8), (0, 1, 24)]), (64, 0, 1, 0, 0, 0, []), (65, 27, 0, 0, 0, 0, []), (66, 0, 1, 0, 0, 2, []), (67, 9, 0, 0, 0, 0, []), (68, 35, 3, 1000001, 8, 0, []), (71, 0, 1, 0, 0, 0, []), (72, 27, 0, 0, 0, 0, []), (73, 18, 84, 4, 49, 0, []), (76, 4, 1, 0, 0, 0, []), (77, 2, 1, 1, 0, 0, []), (78, 40, 4, 2, 2, 0, []), (81, 17, 87, 0, 51, 0, []), (84, 0, 2, 0, 0, 7, []), (86, 41, 0, 0, 0, 0, []), (87, 4, 1, 0, 0, 0, []), (88, 4, 1, 0, 0, 0, []), (89, 25, 0, 1, 4, 0, [(0, 2, 19), (0, 0, 0)]), (92, 25, 2, 5, 4, 0, [(0, 23, 8), (0, 1, 1)]), (95, 0, 1, 0, 0, 1, []), (96, 27, 0, 1, 0, 0, []), (97, 4, 1, 2, 0, 0, []), (98, 4, 1, 0, 0, 0, []), (99, 25, 0, 5, 4, 0, [(0, 5, 12), (0, 1, 3)]), (102, 25, 5, 0, 4, 0, [(0, 3, 3), (0, 1, 1)]), (105, 40, 5, 4, 2, 0, []), (108, 5, 1, 3, 0, 0, []), (109, 4, 1, 0, 0, 0, []), (110, 4, 1, 0, 0, 0, []), (111, 25, 0, 1, 4, 0, [(0, 2, 19), (0, 0, 0)]), (114, 25, 2, 5, 4, 0, [(0, 23, 8), (0, 1, 1)]), (117, 0, 1, 0, 0, 2, []), (118, 27, 0, 1, 0, 0, []), (119, 4, 1, 2, 0, 0, []), (120, 4, 1, 0, 0, 0, []), (121, 25, 0, 5, 4, 0, [(0, 5, 12), (0, 1, 3)]), (124, 25, 5, 1, 4, 0, [(0, 3, 3), (0, 1, 4)]), (127, 40, 5, 4, 2, 0, []), (130, 5, 2, 4, 0, 0, []), (132, 4, 1, 2, 0, 0, []), (133, 0, 1, 0, 0, 1, []), (134, 26, 4, 1, 1, 0, []), (137, 0, 1, 0, 0, 2, []), (138, 5, 2, 5, 0, 0, []), (140, 49, 0, 0, 0, 0, []), (140, 2, 2, 5, 0, 0, []), (142, 0, 2, 0, 0, 6, []), (144, 18, 235, 4, 126, 0, []), (147, 0, 1, 0, 0, 0, []), (148, 5, 2, 6, 0, 0, []), (150, 49, 0, 0, 0, 0, []), (150, 2, 2, 6, 0, 0, []), (152, 4, 1, 0, 0, 0, []), (153, 25, 0, 0, 4, 0, [(0, 10, 15), (0, 0, 0)]), (156, 25, 10, 4, 4, 0, [(0, 20, 8), (0, 1, 24)]), (159, 2, 2, 5, 0, 0, []), (161, 27, 0, 0, 0, 0, []), (162, 18, 229, 3, 124, 0, []), (165, 4, 1, 0, 0, 0, []), (166, 25, 0, 0, 4, 0, [(0, 10, 15), (0, 0, 0)]), (169, 2, 2, 5, 0, 0, []), (171, 2, 2, 6, 0, 0, []), (173, 40, 6, 3, 12, 0, []), (176, 7, 2, 7, 0, 0, []), (178, 4, 2, 7, 0, 0, []), (180, 4, 1, 0, 0, 0, []), (181, 25, 0, 0, 4, 0, [(0, 10, 15), (0, 0, 0)]), (184, 25, 10, 11, 0, 0, []), (187, 40, 7, 2, 11, 0, []), (190, 17, 223, 0, 121, 0, []), (193, 4, 2, 7, 0, 0, []), (195, 25, 9, 9, 4, 0, [(0, 8, 2), (0, 0, 0)]), (198, 2, 1, 1, 0, 0, []), (199, 2, 1, 3, 0, 0, []), (200, 2, 2, 4, 0, 0, []), (202, 40, 8, 4, 10, 0, []), (205, 4, 1, 0, 0, 0, []), (206, 4, 2, 7, 0, 0, []), (208, 25, 9, 10, 4, 0, [(0, 8, 2), (0, 0, 0)]), (211, 4, 2, 7, 0, 0, []), (213, 25, 9, 11, 4, 0, [(0, 2, 19), (0, 0, 0)]), (216, 2, 1, 1, 0, 0, []), (217, 2, 1, 3, 0, 0, []), (218, 2, 2, 4, 0, 0, []), (220, 40, 9, 6, 2, 0, []), (223, 49, 0, 0, 0, 0, []), (223, 8, 0, 6, 0, 1, []), (226, 19, 150, 0, 86, 0, []), (229, 8, 0, 5, 0, 1, []), (232, 19, 140, 0, 80, 0, []), (235, 0, 1, 0, 0, 0, []), (236, 41, 0, 0, 0, 0, [])]
set_option maxRecDepth 20000 in
theorem qX0_splitf : f_all yX0_split YX0_split pX0_splitf :=
  ⟨f_aload_n (n := 0) (e_dx DX0_split_0 0 rfl) rfl,
  f_getA (e_dx DX0_split_0 1 rfl) fX0_19 rfl (by decide) (Nat.le_of_ble_eq_true rfl) rfl (by decide),
  f_iconst (e_dx DX0_split_0 2 rfl) ⟨by decide, by decide⟩,
  f_iaload (e_dx DX0_split_0 3 rfl),
  f_istore_n (n := 1) (e_dx DX0_split_0 4 rfl) rfl (by decide),
  f_aload_n (n := 0) (e_dx DX0_split_0 5 rfl) rfl,
  f_getA (e_dx DX0_split_0 6 rfl) fX0_36 rfl (by decide) (Nat.le_of_ble_eq_true rfl) rfl (by decide),
  f_iload_n (n := 1) (e_dx DX0_split_0 7 rfl) rfl,
  x_callV (e_dx DX0_split_0 8 rfl) mwX10_lot vwX10_lot cX0_161 rfl,
  f_astore_n (n := 2) (e_dx DX0_split_0 9 rfl) rfl (by decide),
  f_aload_n (n := 0) (e_dx DX0_split_0 10 rfl) rfl,
  f_iload_n (n := 1) (e_dx DX0_split_0 11 rfl) rfl,
  x_callV (e_dx DX0_split_0 12 rfl) mwX0_areOwnersAble vwX0_areOwnersAble cX0_296 rfl,
  f_if_ne (e_dx DX0_split_0 13 rfl) rfl,
  f_iconst (e_dx DX0_split_0 14 rfl) ⟨by decide, by decide⟩,
  ⟨(e_dx DX0_split_0 15 rfl), rfl⟩,
  f_aload_n (n := 0) (e_dx DX0_split_0 16 rfl) rfl,
  f_iload_n (n := 1) (e_dx DX0_split_0 17 rfl) rfl,
  f_iconst (e_dx DX0_split_0 18 rfl) ⟨by decide, by decide⟩,
  x_callV (e_dx DX0_split_0 19 rfl) mwX0_isBarred vwX0_isBarred cX0_275 rfl,
  f_if_eq (e_dx DX0_split_0 20 rfl) rfl,
  f_iconst (e_dx DX0_split_0 21 rfl) ⟨by decide, by decide⟩,
  ⟨(e_dx DX0_split_0 22 rfl), rfl⟩,
  f_aload_n (n := 0) (e_dx DX0_split_0 23 rfl) rfl,
  f_getA (e_dx DX0_split_0 24 rfl) fX0_25 rfl (by decide) (Nat.le_of_ble_eq_true rfl) rfl (by decide),
  f_aload_n (n := 2) (e_dx DX0_split_0 25 rfl) rfl,
  f_getA (e_dx DX0_split_0 26 rfl) fX0_299 rfl (by decide) (Nat.le_of_ble_eq_true rfl) rfl (by decide),
  f_aload_n (n := 0) (e_dx DX0_split_0 27 rfl) rfl,
  f_getA (e_dx DX0_split_0 28 rfl) fX0_40 rfl (by decide) (Nat.le_of_ble_eq_true rfl) rfl (by decide),
  x_callV (e_dx DX0_split_0 29 rfl) mwX5_cut vwX5_cut cX0_303 rfl,
  f_if_ne (e_dx DX0_split_0 30 rfl) rfl,
  f_iconst (e_dx DX0_split_0 31 rfl) ⟨by decide, by decide⟩,
  ⟨(e_dx DX0_split_0 32 rfl), rfl⟩,
  f_aload_n (n := 0) (e_dx DX0_split_0 33 rfl) rfl,
  f_getA (e_dx DX0_split_0 34 rfl) fX0_36 rfl (by decide) (Nat.le_of_ble_eq_true rfl) rfl (by decide),
  f_getA (e_dx DX0_split_0 35 rfl) fX0_174 rfl (by decide) (Nat.le_of_ble_eq_true rfl) rfl (by decide),
  f_iconst (e_dx DX0_split_0 36 rfl) ⟨by decide, by decide⟩,
  f_iaload (e_dx DX0_split_0 37 rfl),
  f_iconst (e_dx DX0_split_0 38 rfl) ⟨by decide, by decide⟩,
  f_iadd (e_dx DX0_split_0 39 rfl),
  f_getsN (j := 0) (q := ("LandHouse", "MOST")) (e_dx DX0_split_1 0 rfl) rfl gX0_307 rfl ⟨rfl, rfl⟩,
  f_iconst (e_dx DX0_split_1 1 rfl) ⟨by decide, by decide⟩,
  f_iaload (e_dx DX0_split_1 2 rfl),
  f_icmp_gt (e_dx DX0_split_1 3 rfl) rfl,
  f_aload_n (n := 0) (e_dx DX0_split_1 4 rfl) rfl,
  f_iload_n (n := 1) (e_dx DX0_split_1 5 rfl) rfl,
  x_callV (e_dx DX0_split_1 6 rfl) mwX0_isSplitTooMany vwX0_isSplitTooMany cX0_310 rfl,
  f_if_eq (e_dx DX0_split_1 7 rfl) rfl,
  f_bipush (e_dx DX0_split_1 8 rfl) ⟨by decide, by decide⟩,
  ⟨(e_dx DX0_split_1 9 rfl), rfl⟩,
  f_aload_n (n := 0) (e_dx DX0_split_1 10 rfl) rfl,
  f_aload_n (n := 0) (e_dx DX0_split_1 11 rfl) rfl,
  f_getA (e_dx DX0_split_1 12 rfl) fX0_40 rfl (by decide) (Nat.le_of_ble_eq_true rfl) rfl (by decide),
  f_getA (e_dx DX0_split_1 13 rfl) fX0_129 rfl (by decide) (Nat.le_of_ble_eq_true rfl) rfl (by decide),
  f_iconst (e_dx DX0_split_1 14 rfl) ⟨by decide, by decide⟩,
  f_laload (e_dx DX0_split_1 15 rfl),
  f_aload_n (n := 2) (e_dx DX0_split_1 16 rfl) rfl,
  f_aload_n (n := 0) (e_dx DX0_split_1 17 rfl) rfl,
  f_getA (e_dx DX0_split_1 18 rfl) fX0_25 rfl (by decide) (Nat.le_of_ble_eq_true rfl) rfl (by decide),
  f_getA (e_dx DX0_split_1 19 rfl) fX0_313 rfl (by decide) (Nat.le_of_ble_eq_true rfl) rfl (by decide),
  x_callV (e_dx DX0_split_1 20 rfl) mwX0_makeLot vwX0_makeLot cX0_316 rfl,
  f_istore_n (n := 3) (e_dx DX0_split_1 21 rfl) rfl (by decide),
  f_aload_n (n := 0) (e_dx DX0_split_1 22 rfl) rfl,
  f_aload_n (n := 0) (e_dx DX0_split_1 23 rfl) rfl,
  f_getA (e_dx DX0_split_1 24 rfl) fX0_40 rfl (by decide) (Nat.le_of_ble_eq_true rfl) rfl (by decide),
  f_getA (e_dx DX0_split_1 25 rfl) fX0_129 rfl (by decide) (Nat.le_of_ble_eq_true rfl) rfl (by decide),
  f_iconst (e_dx DX0_split_1 26 rfl) ⟨by decide, by decide⟩,
  f_laload (e_dx DX0_split_1 27 rfl),
  f_aload_n (n := 2) (e_dx DX0_split_1 28 rfl) rfl,
  f_aload_n (n := 0) (e_dx DX0_split_1 29 rfl) rfl,
  f_getA (e_dx DX0_split_1 30 rfl) fX0_25 rfl (by decide) (Nat.le_of_ble_eq_true rfl) rfl (by decide),
  f_getA (e_dx DX0_split_1 31 rfl) fX0_320 rfl (by decide) (Nat.le_of_ble_eq_true rfl) rfl (by decide),
  x_callV (e_dx DX0_split_1 32 rfl) mwX0_makeLot vwX0_makeLot cX0_316 rfl,
  f_istore (e_dx DX0_split_1 33 rfl) (by decide),
  f_aload_n (n := 2) (e_dx DX0_split_1 34 rfl) rfl,
  f_iconst (e_dx DX0_split_1 35 rfl) ⟨by decide, by decide⟩,
  f_putn (e_dx DX0_split_1 36 rfl) fX0_247 (fun q hq => by cases hq; rfl) rfl (Or.inr (Or.inl rfl)) (by decide),
  f_iconst (e_dx DX0_split_1 37 rfl) ⟨by decide, by decide⟩,
  f_istore (e_dx DX0_split_1 38 rfl) (by decide),
  trivial,
  f_iload (e_dx DX0_split_1 39 rfl),
  f_bipush (e_dx DX0_split_2 0 rfl) ⟨by decide, by decide⟩,
  f_icmp_gt (e_dx DX0_split_2 1 rfl) rfl,
  f_iconst (e_dx DX0_split_2 2 rfl) ⟨by decide, by decide⟩,
  f_istore (e_dx DX0_split_2 3 rfl) (by decide),
  trivial,
  f_iload (e_dx DX0_split_2 4 rfl),
  f_aload_n (n := 0) (e_dx DX0_split_2 5 rfl) rfl,
  f_getA (e_dx DX0_split_2 6 rfl) fX0_36 rfl (by decide) (Nat.le_of_ble_eq_true rfl) rfl (by decide),
  f_getA (e_dx DX0_split_2 7 rfl) fX0_174 rfl (by decide) (Nat.le_of_ble_eq_true rfl) rfl (by decide),
  f_iload (e_dx DX0_split_2 8 rfl),
  f_iaload (e_dx DX0_split_2 9 rfl),
  f_icmp_ge (e_dx DX0_split_2 10 rfl) rfl,
  f_aload_n (n := 0) (e_dx DX0_split_2 11 rfl) rfl,
  f_getA (e_dx DX0_split_2 12 rfl) fX0_36 rfl (by decide) (Nat.le_of_ble_eq_true rfl) rfl (by decide),
  f_iload (e_dx DX0_split_2 13 rfl),
  f_iload (e_dx DX0_split_2 14 rfl),
  x_callV (e_dx DX0_split_2 15 rfl) mwX10_at vwX10_at cX0_152 rfl,
  f_astore (e_dx DX0_split_2 16 rfl) (by decide),
  f_aload (e_dx DX0_split_2 17 rfl),
  f_aload_n (n := 0) (e_dx DX0_split_2 18 rfl) rfl,
  f_getA (e_dx DX0_split_2 19 rfl) fX0_36 rfl (by decide) (Nat.le_of_ble_eq_true rfl) rfl (by decide),
  f_getf (e_dx DX0_split_2 20 rfl) fX0_49 rfl (by decide) (by decide) (by decide),
  x_callV (e_dx DX0_split_2 21 rfl) mwX9_isThere vwX9_isThere cX0_177 rfl,
  f_if_eq (e_dx DX0_split_2 22 rfl) rfl,
  f_aload (e_dx DX0_split_2 23 rfl),
  f_getA (e_dx DX0_split_2 24 rfl) fX0_179 rfl (by decide) (Nat.le_of_ble_eq_true rfl) rfl (by decide),
  f_iload_n (n := 1) (e_dx DX0_split_2 25 rfl) rfl,
  f_iload_n (n := 3) (e_dx DX0_split_2 26 rfl) rfl,
  f_iload (e_dx DX0_split_2 27 rfl),
  x_callV (e_dx DX0_split_2 28 rfl) mwX8_part vwX8_part cX0_323 rfl,
  f_aload_n (n := 0) (e_dx DX0_split_2 29 rfl) rfl,
  f_aload (e_dx DX0_split_2 30 rfl),
  f_getA (e_dx DX0_split_2 31 rfl) fX0_293 rfl (by decide) (Nat.le_of_ble_eq_true rfl) rfl (by decide),
  f_aload (e_dx DX0_split_2 32 rfl),
  f_getA (e_dx DX0_split_2 33 rfl) fX0_327 rfl (by decide) (Nat.le_of_ble_eq_true rfl) rfl (by decide),
  f_iload_n (n := 1) (e_dx DX0_split_2 34 rfl) rfl,
  f_iload_n (n := 3) (e_dx DX0_split_2 35 rfl) rfl,
  f_iload (e_dx DX0_split_2 36 rfl),
  x_callV (e_dx DX0_split_2 37 rfl) mwX0_partOver vwX0_partOver cX0_328 rfl,
  trivial,
  f_g8 (e_dx DX0_split_2 38 rfl) ⟨by decide, by decide⟩,
  f_g19 (e_dx DX0_split_2 39 rfl) rfl,
  f_g8 (e_dx DX0_split_3 0 rfl) ⟨by decide, by decide⟩,
  f_g19 (e_dx DX0_split_3 1 rfl) rfl,
  f_iconst (e_dx DX0_split_3 2 rfl) ⟨by decide, by decide⟩,
  ⟨(e_dx DX0_split_3 3 rfl), rfl⟩, trivial⟩
def lX0_split (c_X10_lot : Nat → Int → e_M → (Nat → Prop) → Prop) (c_X0_areOwnersAble : Int → e_M → (Int → Prop) → Prop) (c_X0_isBarred : Int → Int → e_M → (Int → Prop) → Prop) (c_X5_cut : Nat → Nat → e_M → (Int → e_M → Prop) → Prop) (c_X0_isSplitTooMany : Int → e_M → (Int → Prop) → Prop) (c_X0_makeLot : Int → Nat → Nat → e_M → (Int → e_M → Prop) → Prop) (c_X10_at : Nat → Int → Int → e_M → (Nat → Prop) → Prop) (c_X9_isThere : Nat → Int → e_M → (Int → Prop) → Prop) (c_X8_part : Nat → Int → Int → Int → e_M → (e_M → Prop) → Prop) (c_X0_partOver : Nat → Nat → Int → Int → Int → e_M → (e_M → Prop) → Prop) : List (Nat × f_Wt) := [(0, f_wm [(3, 10, 15), (1, 0, 0)] (fun ar M R => c_X10_lot (f_va (f_nth ar 0)) (f_vi (f_nth ar 1)) M (fun r => R (some (.inr (.inr (.inl (4, 9, r))))) M))), (1, f_wm [(4433, 0, 7), (1, 0, 0)] (fun ar M R => c_X0_areOwnersAble (f_vi (f_nth ar 1)) M (fun r => R (some (.inl r)) M))), (2, f_wm [(4433, 0, 7), (1, 0, 0), (1, 0, 0)] (fun ar M R => c_X0_isBarred (f_vi (f_nth ar 1)) (f_vi (f_nth ar 2)) M (fun r => R (some (.inl r)) M))), (3, f_wm [(4436, 5, 12), (3, 3, 3), (3, 2, 19)] (fun ar M R => c_X5_cut (f_va (f_nth ar 1)) (f_va (f_nth ar 2)) M (fun r M => R (some (.inl r)) M))), (4, f_wm [(4433, 0, 7), (1, 0, 0)] (fun ar M R => c_X0_isSplitTooMany (f_vi (f_nth ar 1)) M (fun r => R (some (.inl r)) M))), (5, f_wm [(4433, 0, 7), (2, 0, 0), (3, 4, 9), (3, 3, 3)] (fun ar M R => c_X0_makeLot (f_vi (f_nth ar 1)) (f_va (f_nth ar 2)) (f_va (f_nth ar 3)) M (fun r M => R (some (.inl r)) M))), (6, f_wm [(3, 10, 15), (1, 0, 0), (1, 0, 0)] (fun ar M R => c_X10_at (f_va (f_nth ar 0)) (f_vi (f_nth ar 1)) (f_vi (f_nth ar 2)) M (fun r => R (some (.inr (.inr (.inl (9, 14, r))))) M))), (7, f_wm [(3, 9, 14), (1, 0, 0)] (fun ar M R => c_X9_isThere (f_va (f_nth ar 0)) (f_vi (f_nth ar 1)) M (fun r => R (some (.inl r)) M))), (8, f_wm [(3, 8, 2), (1, 0, 0), (1, 0, 0), (1, 0, 0)] (fun ar M R => c_X8_part (f_va (f_nth ar 0)) (f_vi (f_nth ar 1)) (f_vi (f_nth ar 2)) (f_vi (f_nth ar 3)) M (fun M => R none M))), (9, f_wm [(4433, 0, 7), (3, 8, 2), (3, 2, 19), (1, 0, 0), (1, 0, 0), (1, 0, 0)] (fun ar M R => c_X0_partOver (f_va (f_nth ar 1)) (f_va (f_nth ar 2)) (f_vi (f_nth ar 3)) (f_vi (f_nth ar 4)) (f_vi (f_nth ar 5)) M (fun M => R none M)))]
set_option maxRecDepth 20000 in
theorem BX0_split_140 {sh : Nat → Nat × Nat} {t : Nat} {rm : Nat × Nat × Nat} {cs : Nat × Nat} {R : f_Rt} {c_X10_lot : Nat → Int → e_M → (Nat → Prop) → Prop} {c_X0_areOwnersAble : Int → e_M → (Int → Prop) → Prop} {c_X0_isBarred : Int → Int → e_M → (Int → Prop) → Prop} {c_X5_cut : Nat → Nat → e_M → (Int → e_M → Prop) → Prop} {c_X0_isSplitTooMany : Int → e_M → (Int → Prop) → Prop} {c_X0_makeLot : Int → Nat → Nat → e_M → (Int → e_M → Prop) → Prop} {c_X10_at : Nat → Int → Int → e_M → (Nat → Prop) → Prop} {c_X9_isThere : Nat → Int → e_M → (Int → Prop) → Prop} {c_X8_part : Nat → Int → Int → Int → e_M → (e_M → Prop) → Prop} {c_X0_partOver : Nat → Nat → Int → Int → Int → e_M → (e_M → Prop) → Prop} {k150 : Int → Int → Int → Int → Int → e_M → Prop} {x1 : Int} {x3 : Int} {x4 : Int} {x5 : Int} {M : e_M} (C : f_Hy sh t yX0_split rm cs 8 (lX0_split c_X10_lot c_X0_areOwnersAble c_X0_isBarred c_X5_cut c_X0_isSplitTooMany c_X0_makeLot c_X10_at c_X9_isThere c_X8_part c_X0_partOver) R) (h150 : ∀ (x1 : Int) (x3 : Int) (x4 : Int) (x5 : Int) (x6 : Int) (M : e_M), k150 x1 x3 x4 x5 x6 M → f_E sh t YX0_split rm cs (f_Q sh t R) 150 [.inr (.inr (.inl (0, 7, 4423))), .inl x1, .inr (.inr (.inr ())), .inl x3, .inl x4, .inl x5, .inl x6, .inr (.inr (.inr ()))] [] M) (h : VX0_split_140 c_X10_lot c_X0_areOwnersAble c_X0_isBarred c_X5_cut c_X0_isSplitTooMany c_X0_makeLot c_X10_at c_X9_isThere c_X8_part c_X0_partOver k150 (fun r M => R (some (.inl r)) M) x1 x3 x4 x5 M) : f_E sh t YX0_split rm cs (f_Q sh t R) 140 [.inr (.inr (.inl (0, 7, 4423))), .inl x1, .inr (.inr (.inr ())), .inl x3, .inl x4, .inl x5, .inr (.inr (.inr ())), .inr (.inr (.inr ()))] [] M :=
  f_go (KC := f_kc [(150, f_pl [(4433, 0, 7), (1, 0, 0), (0, 0, 0), (1, 0, 0), (1, 0, 0), (1, 0, 0), (1, 0, 0), (0, 0, 0)] [] (fun ls st M => k150 (f_vi (f_nth ls 1)) (f_vi (f_nth ls 3)) (f_vi (f_nth ls 4)) (f_vi (f_nth ls 5)) (f_vi (f_nth ls 6)) M))]) C qX0_splitf (f_kc_cons (f_pl_ok rfl (fun ls st M h => h150 _ _ _ _ _ M h)) f_kc_nil) 129 80 h
set_option maxRecDepth 20000 in
theorem BX0_split_150 {sh : Nat → Nat × Nat} {t : Nat} {rm : Nat × Nat × Nat} {cs : Nat × Nat} {R : f_Rt} {c_X10_lot : Nat → Int → e_M → (Nat → Prop) → Prop} {c_X0_areOwnersAble : Int → e_M → (Int → Prop) → Prop} {c_X0_isBarred : Int → Int → e_M → (Int → Prop) → Prop} {c_X5_cut : Nat → Nat → e_M → (Int → e_M → Prop) → Prop} {c_X0_isSplitTooMany : Int → e_M → (Int → Prop) → Prop} {c_X0_makeLot : Int → Nat → Nat → e_M → (Int → e_M → Prop) → Prop} {c_X10_at : Nat → Int → Int → e_M → (Nat → Prop) → Prop} {c_X9_isThere : Nat → Int → e_M → (Int → Prop) → Prop} {c_X8_part : Nat → Int → Int → Int → e_M → (e_M → Prop) → Prop} {c_X0_partOver : Nat → Nat → Int → Int → Int → e_M → (e_M → Prop) → Prop} {k140 : Int → Int → Int → Int → e_M → Prop} {k223 : Int → Int → Int → Int → Int → e_M → Prop} {x1 : Int} {x3 : Int} {x4 : Int} {x5 : Int} {x6 : Int} {M : e_M} (C : f_Hy sh t yX0_split rm cs 8 (lX0_split c_X10_lot c_X0_areOwnersAble c_X0_isBarred c_X5_cut c_X0_isSplitTooMany c_X0_makeLot c_X10_at c_X9_isThere c_X8_part c_X0_partOver) R) (h140 : ∀ (x1 : Int) (x3 : Int) (x4 : Int) (x5 : Int) (M : e_M), k140 x1 x3 x4 x5 M → f_E sh t YX0_split rm cs (f_Q sh t R) 140 [.inr (.inr (.inl (0, 7, 4423))), .inl x1, .inr (.inr (.inr ())), .inl x3, .inl x4, .inl x5, .inr (.inr (.inr ())), .inr (.inr (.inr ()))] [] M) (h223 : ∀ (x1 : Int) (x3 : Int) (x4 : Int) (x5 : Int) (x6 : Int) (M : e_M), k223 x1 x3 x4 x5 x6 M → f_E sh t YX0_split rm cs (f_Q sh t R) 223 [.inr (.inr (.inl (0, 7, 4423))), .inl x1, .inr (.inr (.inr ())), .inl x3, .inl x4, .inl x5, .inl x6, .inr (.inr (.inr ()))] [] M) (h : VX0_split_150 c_X10_lot c_X0_areOwnersAble c_X0_isBarred c_X5_cut c_X0_isSplitTooMany c_X0_makeLot c_X10_at c_X9_isThere c_X8_part c_X0_partOver k140 k223 (fun r M => R (some (.inl r)) M) x1 x3 x4 x5 x6 M) : f_E sh t YX0_split rm cs (f_Q sh t R) 150 [.inr (.inr (.inl (0, 7, 4423))), .inl x1, .inr (.inr (.inr ())), .inl x3, .inl x4, .inl x5, .inl x6, .inr (.inr (.inr ()))] [] M :=
  f_go (KC := f_kc [(140, f_pl [(4433, 0, 7), (1, 0, 0), (0, 0, 0), (1, 0, 0), (1, 0, 0), (1, 0, 0), (0, 0, 0), (0, 0, 0)] [] (fun ls st M => k140 (f_vi (f_nth ls 1)) (f_vi (f_nth ls 3)) (f_vi (f_nth ls 4)) (f_vi (f_nth ls 5)) M)), (223, f_pl [(4433, 0, 7), (1, 0, 0), (0, 0, 0), (1, 0, 0), (1, 0, 0), (1, 0, 0), (1, 0, 0), (0, 0, 0)] [] (fun ls st M => k223 (f_vi (f_nth ls 1)) (f_vi (f_nth ls 3)) (f_vi (f_nth ls 4)) (f_vi (f_nth ls 5)) (f_vi (f_nth ls 6)) M))]) C qX0_splitf (f_kc_cons (f_pl_ok rfl (fun ls st M h => h140 _ _ _ _ M h)) (f_kc_cons (f_pl_ok rfl (fun ls st M h => h223 _ _ _ _ _ M h)) f_kc_nil)) 129 86 h
set_option maxRecDepth 20000 in
theorem BX0_split_223 {sh : Nat → Nat × Nat} {t : Nat} {rm : Nat × Nat × Nat} {cs : Nat × Nat} {R : f_Rt} {c_X10_lot : Nat → Int → e_M → (Nat → Prop) → Prop} {c_X0_areOwnersAble : Int → e_M → (Int → Prop) → Prop} {c_X0_isBarred : Int → Int → e_M → (Int → Prop) → Prop} {c_X5_cut : Nat → Nat → e_M → (Int → e_M → Prop) → Prop} {c_X0_isSplitTooMany : Int → e_M → (Int → Prop) → Prop} {c_X0_makeLot : Int → Nat → Nat → e_M → (Int → e_M → Prop) → Prop} {c_X10_at : Nat → Int → Int → e_M → (Nat → Prop) → Prop} {c_X9_isThere : Nat → Int → e_M → (Int → Prop) → Prop} {c_X8_part : Nat → Int → Int → Int → e_M → (e_M → Prop) → Prop} {c_X0_partOver : Nat → Nat → Int → Int → Int → e_M → (e_M → Prop) → Prop} {k150 : Int → Int → Int → Int → Int → e_M → Prop} {x1 : Int} {x3 : Int} {x4 : Int} {x5 : Int} {x6 : Int} {M : e_M} (C : f_Hy sh t yX0_split rm cs 8 (lX0_split c_X10_lot c_X0_areOwnersAble c_X0_isBarred c_X5_cut c_X0_isSplitTooMany c_X0_makeLot c_X10_at c_X9_isThere c_X8_part c_X0_partOver) R) (h150 : ∀ (x1 : Int) (x3 : Int) (x4 : Int) (x5 : Int) (x6 : Int) (M : e_M), k150 x1 x3 x4 x5 x6 M → f_E sh t YX0_split rm cs (f_Q sh t R) 150 [.inr (.inr (.inl (0, 7, 4423))), .inl x1, .inr (.inr (.inr ())), .inl x3, .inl x4, .inl x5, .inl x6, .inr (.inr (.inr ()))] [] M) (h : VX0_split_223 c_X10_lot c_X0_areOwnersAble c_X0_isBarred c_X5_cut c_X0_isSplitTooMany c_X0_makeLot c_X10_at c_X9_isThere c_X8_part c_X0_partOver k150 (fun r M => R (some (.inl r)) M) x1 x3 x4 x5 x6 M) : f_E sh t YX0_split rm cs (f_Q sh t R) 223 [.inr (.inr (.inl (0, 7, 4423))), .inl x1, .inr (.inr (.inr ())), .inl x3, .inl x4, .inl x5, .inl x6, .inr (.inr (.inr ()))] [] M :=
  f_go (KC := f_kc [(150, f_pl [(4433, 0, 7), (1, 0, 0), (0, 0, 0), (1, 0, 0), (1, 0, 0), (1, 0, 0), (1, 0, 0), (0, 0, 0)] [] (fun ls st M => k150 (f_vi (f_nth ls 1)) (f_vi (f_nth ls 3)) (f_vi (f_nth ls 4)) (f_vi (f_nth ls 5)) (f_vi (f_nth ls 6)) M))]) C qX0_splitf (f_kc_cons (f_pl_ok rfl (fun ls st M h => h150 _ _ _ _ _ M h)) f_kc_nil) 129 121 h
set_option maxRecDepth 20000 in
theorem BX0_split {sh : Nat → Nat × Nat} {t : Nat} {rm : Nat × Nat × Nat} {cs : Nat × Nat} {R : f_Rt} {c_X10_lot : Nat → Int → e_M → (Nat → Prop) → Prop} {c_X0_areOwnersAble : Int → e_M → (Int → Prop) → Prop} {c_X0_isBarred : Int → Int → e_M → (Int → Prop) → Prop} {c_X5_cut : Nat → Nat → e_M → (Int → e_M → Prop) → Prop} {c_X0_isSplitTooMany : Int → e_M → (Int → Prop) → Prop} {c_X0_makeLot : Int → Nat → Nat → e_M → (Int → e_M → Prop) → Prop} {c_X10_at : Nat → Int → Int → e_M → (Nat → Prop) → Prop} {c_X9_isThere : Nat → Int → e_M → (Int → Prop) → Prop} {c_X8_part : Nat → Int → Int → Int → e_M → (e_M → Prop) → Prop} {c_X0_partOver : Nat → Nat → Int → Int → Int → e_M → (e_M → Prop) → Prop} {k140 : Int → Int → Int → Int → e_M → Prop} {M : e_M} (C : f_Hy sh t yX0_split rm cs 8 (lX0_split c_X10_lot c_X0_areOwnersAble c_X0_isBarred c_X5_cut c_X0_isSplitTooMany c_X0_makeLot c_X10_at c_X9_isThere c_X8_part c_X0_partOver) R) (h140 : ∀ (x1 : Int) (x3 : Int) (x4 : Int) (x5 : Int) (M : e_M), k140 x1 x3 x4 x5 M → f_E sh t YX0_split rm cs (f_Q sh t R) 140 [.inr (.inr (.inl (0, 7, 4423))), .inl x1, .inr (.inr (.inr ())), .inl x3, .inl x4, .inl x5, .inr (.inr (.inr ())), .inr (.inr (.inr ()))] [] M) (h : VX0_split c_X10_lot c_X0_areOwnersAble c_X0_isBarred c_X5_cut c_X0_isSplitTooMany c_X0_makeLot c_X10_at c_X9_isThere c_X8_part c_X0_partOver k140 (fun r M => R (some (.inl r)) M) M) : f_E sh t YX0_split rm cs (f_Q sh t R) 0 [.inr (.inr (.inl (0, 7, 4423))), .inr (.inr (.inr ())), .inr (.inr (.inr ())), .inr (.inr (.inr ())), .inr (.inr (.inr ())), .inr (.inr (.inr ())), .inr (.inr (.inr ())), .inr (.inr (.inr ()))] [] M :=
  f_go (KC := f_kc [(140, f_pl [(4433, 0, 7), (1, 0, 0), (0, 0, 0), (1, 0, 0), (1, 0, 0), (1, 0, 0), (0, 0, 0), (0, 0, 0)] [] (fun ls st M => k140 (f_vi (f_nth ls 1)) (f_vi (f_nth ls 3)) (f_vi (f_nth ls 4)) (f_vi (f_nth ls 5)) M))]) C qX0_splitf (f_kc_cons (f_pl_ok rfl (fun ls st M h => h140 _ _ _ _ M h)) f_kc_nil) 129 0 h
def WX0_split_223 (H140 : Int → Int → Int → Int → e_M → Prop) (H150 : Int → Int → Int → Int → Int → e_M → Prop) (Q : Int → e_M → Prop) (x1 : Int) (x3 : Int) (x4 : Int) (x5 : Int) (x6 : Int) (M : e_M) : Prop :=
  VX0_split_223 WX10_lot WX0_areOwnersAble WX0_isBarred WX5_cut WX0_isSplitTooMany WX0_makeLot WX10_at WX9_isThere WX8_part WX0_partOver H150 Q x1 x3 x4 x5 x6 M
def WX0_split_150 (H140 : Int → Int → Int → Int → e_M → Prop) (Q : Int → e_M → Prop) : Nat → Int → Int → Int → Int → Int → e_M → Prop
  | 0, _, _, _, _, _, _ => False
  | n + 1, x1, x3, x4, x5, x6, M =>
    VX0_split_150 WX10_lot WX0_areOwnersAble WX0_isBarred WX5_cut WX0_isSplitTooMany WX0_makeLot WX10_at WX9_isThere WX8_part WX0_partOver H140 (WX0_split_223 H140 (WX0_split_150 H140 Q n) Q) Q x1 x3 x4 x5 x6 M
def WX0_split_140 (Q : Int → e_M → Prop) : Nat → Int → Int → Int → Int → e_M → Prop
  | 0, _, _, _, _, _ => False
  | n + 1, x1, x3, x4, x5, M =>
    VX0_split_140 WX10_lot WX0_areOwnersAble WX0_isBarred WX5_cut WX0_isSplitTooMany WX0_makeLot WX10_at WX9_isThere WX8_part WX0_partOver (fun x1 x3 x4 x5 x6 M => ∃ j, WX0_split_150 (WX0_split_140 Q n) Q j x1 x3 x4 x5 x6 M) Q x1 x3 x4 x5 M
def WX0_split (M : e_M) (Q : Int → e_M → Prop) : Prop :=
  VX0_split WX10_lot WX0_areOwnersAble WX0_isBarred WX5_cut WX0_isSplitTooMany WX0_makeLot WX10_at WX9_isThere WX8_part WX0_partOver (fun x1 x3 x4 x5 M => ∃ j, WX0_split_140 Q j x1 x3 x4 x5 M) Q M
theorem PX0_split_223 {sh : Nat → Nat × Nat} {t : Nat} {rm : Nat × Nat × Nat} {cs : Nat × Nat} {R : f_Rt} {H140 : Int → Int → Int → Int → e_M → Prop} {H150 : Int → Int → Int → Int → Int → e_M → Prop} {x1 : Int} {x3 : Int} {x4 : Int} {x5 : Int} {x6 : Int} {M : e_M} (C : f_Hy sh t yX0_split rm cs 8 (lX0_split WX10_lot WX0_areOwnersAble WX0_isBarred WX5_cut WX0_isSplitTooMany WX0_makeLot WX10_at WX9_isThere WX8_part WX0_partOver) R) (g140 : ∀ (x1 : Int) (x3 : Int) (x4 : Int) (x5 : Int) (M : e_M), H140 x1 x3 x4 x5 M → f_E sh t YX0_split rm cs (f_Q sh t R) 140 [.inr (.inr (.inl (0, 7, 4423))), .inl x1, .inr (.inr (.inr ())), .inl x3, .inl x4, .inl x5, .inr (.inr (.inr ())), .inr (.inr (.inr ()))] [] M) (g150 : ∀ (x1 : Int) (x3 : Int) (x4 : Int) (x5 : Int) (x6 : Int) (M : e_M), H150 x1 x3 x4 x5 x6 M → f_E sh t YX0_split rm cs (f_Q sh t R) 150 [.inr (.inr (.inl (0, 7, 4423))), .inl x1, .inr (.inr (.inr ())), .inl x3, .inl x4, .inl x5, .inl x6, .inr (.inr (.inr ()))] [] M) (h : WX0_split_223 H140 H150 (fun r M => R (some (.inl r)) M) x1 x3 x4 x5 x6 M) : f_E sh t YX0_split rm cs (f_Q sh t R) 223 [.inr (.inr (.inl (0, 7, 4423))), .inl x1, .inr (.inr (.inr ())), .inl x3, .inl x4, .inl x5, .inl x6, .inr (.inr (.inr ()))] [] M :=
  BX0_split_223 C g150 h
theorem PX0_split_150 {sh : Nat → Nat × Nat} {t : Nat} {rm : Nat × Nat × Nat} {cs : Nat × Nat} {R : f_Rt} {H140 : Int → Int → Int → Int → e_M → Prop} (C : f_Hy sh t yX0_split rm cs 8 (lX0_split WX10_lot WX0_areOwnersAble WX0_isBarred WX5_cut WX0_isSplitTooMany WX0_makeLot WX10_at WX9_isThere WX8_part WX0_partOver) R) (g140 : ∀ (x1 : Int) (x3 : Int) (x4 : Int) (x5 : Int) (M : e_M), H140 x1 x3 x4 x5 M → f_E sh t YX0_split rm cs (f_Q sh t R) 140 [.inr (.inr (.inl (0, 7, 4423))), .inl x1, .inr (.inr (.inr ())), .inl x3, .inl x4, .inl x5, .inr (.inr (.inr ())), .inr (.inr (.inr ()))] [] M) : ∀ (n : Nat) (x1 : Int) (x3 : Int) (x4 : Int) (x5 : Int) (x6 : Int) (M : e_M), WX0_split_150 H140 (fun r M => R (some (.inl r)) M) n x1 x3 x4 x5 x6 M → f_E sh t YX0_split rm cs (f_Q sh t R) 150 [.inr (.inr (.inl (0, 7, 4423))), .inl x1, .inr (.inr (.inr ())), .inl x3, .inl x4, .inl x5, .inl x6, .inr (.inr (.inr ()))] [] M := by
  intro n
  induction n with
  | zero => intro x1 x3 x4 x5 x6 M h; exact h.elim
  | succ n ih => intro x1 x3 x4 x5 x6 M h; exact BX0_split_150 C g140 (fun x1 x3 x4 x5 x6 M h => PX0_split_223 C g140 ih h) h
theorem PX0_split_140 {sh : Nat → Nat × Nat} {t : Nat} {rm : Nat × Nat × Nat} {cs : Nat × Nat} {R : f_Rt} (C : f_Hy sh t yX0_split rm cs 8 (lX0_split WX10_lot WX0_areOwnersAble WX0_isBarred WX5_cut WX0_isSplitTooMany WX0_makeLot WX10_at WX9_isThere WX8_part WX0_partOver) R) : ∀ (n : Nat) (x1 : Int) (x3 : Int) (x4 : Int) (x5 : Int) (M : e_M), WX0_split_140 (fun r M => R (some (.inl r)) M) n x1 x3 x4 x5 M → f_E sh t YX0_split rm cs (f_Q sh t R) 140 [.inr (.inr (.inl (0, 7, 4423))), .inl x1, .inr (.inr (.inr ())), .inl x3, .inl x4, .inl x5, .inr (.inr (.inr ())), .inr (.inr (.inr ()))] [] M := by
  intro n
  induction n with
  | zero => intro x1 x3 x4 x5 M h; exact h.elim
  | succ n ih => intro x1 x3 x4 x5 M h; exact BX0_split_140 C (fun x1 x3 x4 x5 x6 M ⟨j, h⟩ => PX0_split_150 C ih j _ _ _ _ _ _ h) h
theorem PX0_split {sh : Nat → Nat × Nat} {t : Nat} {rm : Nat × Nat × Nat} {cs : Nat × Nat} {R : f_Rt} {M : e_M} (C : f_Hy sh t yX0_split rm cs 8 (lX0_split WX10_lot WX0_areOwnersAble WX0_isBarred WX5_cut WX0_isSplitTooMany WX0_makeLot WX10_at WX9_isThere WX8_part WX0_partOver) R) (h : WX0_split M (fun r M => R (some (.inl r)) M)) : f_E sh t YX0_split rm cs (f_Q sh t R) 0 [.inr (.inr (.inl (0, 7, 4423))), .inr (.inr (.inr ())), .inr (.inr (.inr ())), .inr (.inr (.inr ())), .inr (.inr (.inr ())), .inr (.inr (.inr ())), .inr (.inr (.inr ())), .inr (.inr (.inr ()))] [] M :=
  BX0_split C (fun x1 x3 x4 x5 M ⟨j, h⟩ => PX0_split_140 C j _ _ _ _ _ h) h
def wX0_split : f_Wt := f_wm [(4433, 0, 7)] (fun ar M R => WX0_split M (fun r M => R (some (.inl r)) M))
theorem TX0_split {sh : Nat → Nat × Nat} {t : Nat} : f_Mt sh t YX0_split 8 (wX0_split) :=
  f_Mt_of (k := 7) (Nat.le_of_ble_eq_true rfl) rfl rfl (fun ar M R rm cs h1 h2 h3 hX h => PX0_split ⟨Nat.le_of_ble_eq_true rfl, h1, h2, h3, ⟨(f_Mt.up (Nat.le_of_ble_eq_true rfl) TX10_lot), (f_Mt.up (Nat.le_of_ble_eq_true rfl) TX0_areOwnersAble), (f_Mt.up (Nat.le_of_ble_eq_true rfl) TX0_isBarred), (f_Mt.up (Nat.le_of_ble_eq_true rfl) TX5_cut), (f_Mt.up (Nat.le_of_ble_eq_true rfl) TX0_isSplitTooMany), (f_Mt.up (Nat.le_of_ble_eq_true rfl) TX0_makeLot), (f_Mt.up (Nat.le_of_ble_eq_true rfl) TX10_at), (f_Mt.up (Nat.le_of_ble_eq_true rfl) TX9_isThere), (f_Mt.up (Nat.le_of_ble_eq_true rfl) TX8_part), (f_Mt.up (Nat.le_of_ble_eq_true rfl) TX0_partOver), trivial⟩, hX⟩ h)
def VX4_hasSameOwners_2 (c_X4_placeOf : Nat → Int → e_M → (Int → Prop) → Prop) (k2 : Nat → Nat → Int → Prop) (Q : Int → Prop) (a0 : Nat) (a1 : Nat) (x2 : Int) (M : e_M) : Prop :=
  (((M a0 8) ≤ x2 → ((¬ (M a0 8) = (M a1 8) → (Q 0)) ∧ ((M a0 8) = (M a1 8) → (Q 1)))) ∧ (x2 < (M a0 8) → ((0 ≤ x2 ∧ x2 < 14) ∧ (c_X4_placeOf a1 (M (a0 + 6) (x2.toNat)) M (fun r1 => ((r1 < 0 → (Q 0)) ∧ (0 ≤ r1 → ((0 ≤ x2 ∧ x2 < 14) ∧ ((0 ≤ r1 ∧ r1 < 14) ∧ ((¬ (M (a0 + 7) (x2.toNat)) = (M (a1 + 7) (r1.toNat)) → (Q 0)) ∧ ((M (a0 + 7) (x2.toNat)) = (M (a1 + 7) (r1.toNat)) → ((0 ≤ x2 ∧ x2 < 14) ∧ ((0 ≤ r1 ∧ r1 < 14) ∧ (((M (a0 + 8) (x2.toNat)) = (M (a1 + 8) (r1.toNat)) → (k2 a0 a1 (e_w32 (x2 + 1)))) ∧ (¬ (M (a0 + 8) (x2.toNat)) = (M (a1 + 8) (r1.toNat)) → (Q 0))))))))))))))))
def VX4_hasSameOwners (c_X4_placeOf : Nat → Int → e_M → (Int → Prop) → Prop) (k2 : Nat → Nat → Int → Prop) (Q : Int → Prop) (a0 : Nat) (a1 : Nat) (M : e_M) : Prop :=
  (k2 a0 a1 0)
def yX4_hasSameOwners (i : Nat) : e_Y := x_get YX4_hasSameOwners [YX4_placeOf] i
def pX4_hasSameOwnersf : List x_I := [(0, 0, 1, 0, 0, 0, []), (1, 5, 1, 2, 0, 0, []), (2, 49, 0, 0, 0, 0, []), (2, 2, 1, 2, 0, 0, []), (3, 4, 1, 0, 0, 0, []), (4, 25, 4, 8, 0, 0, []), (7, 18, 65, 3, 39, 0, []), (10, 4, 1, 1, 0, 0, []), (11, 4, 1, 0, 0, 0, []), (12, 25, 4, 5, 4, 0, [(0, 20, 14), (0, 1, 6)]), (15, 2, 1, 2, 0, 0, []), (16, 27, 0, 0, 0, 0, []), (17, 40, 0, 2, 6, 0, []), (20, 5, 1, 3, 0, 0, []), (21, 2, 1, 3, 0, 0, []), (22, 17, 57, 2, 35, 0, []), (25, 4, 1, 0, 0, 0, []), (26, 25, 4, 6, 4, 0, [(0, 23, 14), (0, 1, 7)]), (29, 2, 1, 2, 0, 0, []), (30, 27, 0, 1, 0, 0, []), (31, 4, 1, 1, 0, 0, []), (32, 25, 4, 6, 4, 0, [(0, 23, 14), (0, 1, 7)]), (35, 2, 1, 3, 0, 0, []), (36, 27, 0, 1, 0, 0, []), (37, 32, 57, 1, 35, 0, []), (41, 4, 1, 0, 0, 0, []), (42, 25, 4, 7, 4, 0, [(0, 23, 14), (0, 1, 8)]), (45, 2, 1, 2, 0, 0, []), (46, 27, 0, 1, 0, 0, []), (47, 4, 1, 1, 0, 0, []), (48, 25, 4, 7, 4, 0, [(0, 23, 14), (0, 1, 8)]), (51, 2, 1, 3, 0, 0, []), (52, 27, 0, 1, 0, 0, []), (53, 32, 59, 0, 37, 0, []), (57, 0, 1, 0, 0, 0, []), (58, 48, 0, 0, 0, 0, []), (59, 8, 0, 2, 0, 1, []), (62, 19, 2, 0, 3, 0, []), (65, 4, 1, 0, 0, 0, []), (66, 25, 4, 8, 0, 0, []), (69, 4, 1, 1, 0, 0, []), (70, 25, 4, 8, 0, 0, []), (73, 18, 80, 1, 46, 0, []), (76, 0, 1, 0, 0, 1, []), (77, 19, 81, 0, 47, 0, []), (80, 0, 1, 0, 0, 0, []), (81, 48, 0, 0, 0, 0, [])]
set_option maxRecDepth 20000 in
theorem qX4_hasSameOwnersf : f_all yX4_hasSameOwners YX4_hasSameOwners pX4_hasSameOwnersf :=
  ⟨f_iconst (e_dx DX4_hasSameOwners_0 0 rfl) ⟨by decide, by decide⟩,
  f_istore_n (n := 2) (e_dx DX4_hasSameOwners_0 1 rfl) rfl (by decide),
  trivial,
  f_iload_n (n := 2) (e_dx DX4_hasSameOwners_0 2 rfl) rfl,
  f_aload_n (n := 0) (e_dx DX4_hasSameOwners_0 3 rfl) rfl,
  f_getf (e_dx DX4_hasSameOwners_0 4 rfl) fX4_48 rfl (by decide) (by decide) (by decide),
  f_icmp_ge (e_dx DX4_hasSameOwners_0 5 rfl) rfl,
  f_aload_n (n := 1) (e_dx DX4_hasSameOwners_0 6 rfl) rfl,
  f_aload_n (n := 0) (e_dx DX4_hasSameOwners_0 7 rfl) rfl,
  f_getA (e_dx DX4_hasSameOwners_0 8 rfl) fX4_37 rfl (by decide) (Nat.le_of_ble_eq_true rfl) rfl (by decide),
  f_iload_n (n := 2) (e_dx DX4_hasSameOwners_0 9 rfl) rfl,
  f_iaload (e_dx DX4_hasSameOwners_0 10 rfl),
  x_callV (e_dx DX4_hasSameOwners_0 11 rfl) mwX4_placeOf vwX4_placeOf cX4_59 rfl,
  f_istore_n (n := 3) (e_dx DX4_hasSameOwners_0 12 rfl) rfl (by decide),
  f_iload_n (n := 3) (e_dx DX4_hasSameOwners_0 13 rfl) rfl,
  f_if_lt (e_dx DX4_hasSameOwners_0 14 rfl) rfl,
  f_aload_n (n := 0) (e_dx DX4_hasSameOwners_0 15 rfl) rfl,
  f_getA (e_dx DX4_hasSameOwners_0 16 rfl) fX4_41 rfl (by decide) (Nat.le_of_ble_eq_true rfl) rfl (by decide),
  f_iload_n (n := 2) (e_dx DX4_hasSameOwners_0 17 rfl) rfl,
  f_laload (e_dx DX4_hasSameOwners_0 18 rfl),
  f_aload_n (n := 1) (e_dx DX4_hasSameOwners_0 19 rfl) rfl,
  f_getA (e_dx DX4_hasSameOwners_0 20 rfl) fX4_41 rfl (by decide) (Nat.le_of_ble_eq_true rfl) rfl (by decide),
  f_iload_n (n := 3) (e_dx DX4_hasSameOwners_0 21 rfl) rfl,
  f_laload (e_dx DX4_hasSameOwners_0 22 rfl),
  f_lif_ne (e_dx DX4_hasSameOwners_0 23 rfl) (e_dx DX4_hasSameOwners_0 24 rfl) rfl,
  f_aload_n (n := 0) (e_dx DX4_hasSameOwners_0 25 rfl) rfl,
  f_getA (e_dx DX4_hasSameOwners_0 26 rfl) fX4_45 rfl (by decide) (Nat.le_of_ble_eq_true rfl) rfl (by decide),
  f_iload_n (n := 2) (e_dx DX4_hasSameOwners_0 27 rfl) rfl,
  f_laload (e_dx DX4_hasSameOwners_0 28 rfl),
  f_aload_n (n := 1) (e_dx DX4_hasSameOwners_0 29 rfl) rfl,
  f_getA (e_dx DX4_hasSameOwners_0 30 rfl) fX4_45 rfl (by decide) (Nat.le_of_ble_eq_true rfl) rfl (by decide),
  f_iload_n (n := 3) (e_dx DX4_hasSameOwners_0 31 rfl) rfl,
  f_laload (e_dx DX4_hasSameOwners_0 32 rfl),
  f_lif_eq (e_dx DX4_hasSameOwners_0 33 rfl) (e_dx DX4_hasSameOwners_0 34 rfl) rfl,
  f_iconst (e_dx DX4_hasSameOwners_0 35 rfl) ⟨by decide, by decide⟩,
  ⟨(e_dx DX4_hasSameOwners_0 36 rfl), rfl⟩,
  f_g8 (e_dx DX4_hasSameOwners_0 37 rfl) ⟨by decide, by decide⟩,
  f_g19 (e_dx DX4_hasSameOwners_0 38 rfl) rfl,
  f_aload_n (n := 0) (e_dx DX4_hasSameOwners_0 39 rfl) rfl,
  f_getf (e_dx DX4_hasSameOwners_1 0 rfl) fX4_48 rfl (by decide) (by decide) (by decide),
  f_aload_n (n := 1) (e_dx DX4_hasSameOwners_1 1 rfl) rfl,
  f_getf (e_dx DX4_hasSameOwners_1 2 rfl) fX4_48 rfl (by decide) (by decide) (by decide),
  f_icmp_ne (e_dx DX4_hasSameOwners_1 3 rfl) rfl,
  f_iconst (e_dx DX4_hasSameOwners_1 4 rfl) ⟨by decide, by decide⟩,
  f_g19 (e_dx DX4_hasSameOwners_1 5 rfl) rfl,
  f_iconst (e_dx DX4_hasSameOwners_1 6 rfl) ⟨by decide, by decide⟩,
  ⟨(e_dx DX4_hasSameOwners_1 7 rfl), rfl⟩, trivial⟩
def lX4_hasSameOwners (c_X4_placeOf : Nat → Int → e_M → (Int → Prop) → Prop) : List (Nat × f_Wt) := [(0, f_wm [(3, 4, 9), (1, 0, 0)] (fun ar M R => c_X4_placeOf (f_va (f_nth ar 0)) (f_vi (f_nth ar 1)) M (fun r => R (some (.inl r)) M)))]
set_option maxRecDepth 20000 in
theorem BX4_hasSameOwners_2 {sh : Nat → Nat × Nat} {t : Nat} {rm : Nat × Nat × Nat} {cs : Nat × Nat} {R : f_Rt} {c_X4_placeOf : Nat → Int → e_M → (Int → Prop) → Prop} {k2 : Nat → Nat → Int → Prop} {a0 : Nat} {a1 : Nat} {x2 : Int} {M : e_M} (C : f_Hy sh t yX4_hasSameOwners rm cs 5 (lX4_hasSameOwners c_X4_placeOf) R) (h2 : ∀ (a0 : Nat) (a1 : Nat) (x2 : Int), k2 a0 a1 x2 → f_E sh t YX4_hasSameOwners rm cs (f_Q sh t R) 2 [.inr (.inr (.inl (4, 9, a0))), .inr (.inr (.inl (4, 9, a1))), .inl x2, .inr (.inr (.inr ()))] [] M) (h : VX4_hasSameOwners_2 c_X4_placeOf k2 (fun r => R (some (.inl r)) M) a0 a1 x2 M) : f_E sh t YX4_hasSameOwners rm cs (f_Q sh t R) 2 [.inr (.inr (.inl (4, 9, a0))), .inr (.inr (.inl (4, 9, a1))), .inl x2, .inr (.inr (.inr ()))] [] M := by
  rw [f_kk3 M k2] at h
  exact f_go (KC := f_kc [(2, f_pl [(3, 4, 9), (3, 4, 9), (1, 0, 0), (0, 0, 0)] [] (fun ls st M2 => M2 = M ∧ (k2 (f_va (f_nth ls 0)) (f_va (f_nth ls 1)) (f_vi (f_nth ls 2)))))]) C qX4_hasSameOwnersf (f_kc_cons (f_pl_ok rfl (fun ls st M2 ⟨e, hh⟩ => by subst e; exact h2 _ _ _ hh)) f_kc_nil) 49 3 h
set_option maxRecDepth 20000 in
theorem BX4_hasSameOwners {sh : Nat → Nat × Nat} {t : Nat} {rm : Nat × Nat × Nat} {cs : Nat × Nat} {R : f_Rt} {c_X4_placeOf : Nat → Int → e_M → (Int → Prop) → Prop} {k2 : Nat → Nat → Int → Prop} {a0 : Nat} {a1 : Nat} {M : e_M} (C : f_Hy sh t yX4_hasSameOwners rm cs 5 (lX4_hasSameOwners c_X4_placeOf) R) (h2 : ∀ (a0 : Nat) (a1 : Nat) (x2 : Int), k2 a0 a1 x2 → f_E sh t YX4_hasSameOwners rm cs (f_Q sh t R) 2 [.inr (.inr (.inl (4, 9, a0))), .inr (.inr (.inl (4, 9, a1))), .inl x2, .inr (.inr (.inr ()))] [] M) (h : VX4_hasSameOwners c_X4_placeOf k2 (fun r => R (some (.inl r)) M) a0 a1 M) : f_E sh t YX4_hasSameOwners rm cs (f_Q sh t R) 0 [.inr (.inr (.inl (4, 9, a0))), .inr (.inr (.inl (4, 9, a1))), .inr (.inr (.inr ())), .inr (.inr (.inr ()))] [] M := by
  rw [f_kk3 M k2] at h
  exact f_go (KC := f_kc [(2, f_pl [(3, 4, 9), (3, 4, 9), (1, 0, 0), (0, 0, 0)] [] (fun ls st M2 => M2 = M ∧ (k2 (f_va (f_nth ls 0)) (f_va (f_nth ls 1)) (f_vi (f_nth ls 2)))))]) C qX4_hasSameOwnersf (f_kc_cons (f_pl_ok rfl (fun ls st M2 ⟨e, hh⟩ => by subst e; exact h2 _ _ _ hh)) f_kc_nil) 49 0 h
def WX4_hasSameOwners_2 (M : e_M) (Q : Int → Prop) : Nat → Nat → Nat → Int → Prop
  | 0, _, _, _ => False
  | n + 1, a0, a1, x2 =>
    VX4_hasSameOwners_2 WX4_placeOf (WX4_hasSameOwners_2 M Q n) Q a0 a1 x2 M
def WX4_hasSameOwners (a0 : Nat) (a1 : Nat) (M : e_M) (Q : Int → Prop) : Prop :=
  VX4_hasSameOwners WX4_placeOf (fun a0 a1 x2 => ∃ j, WX4_hasSameOwners_2 M Q j a0 a1 x2) Q a0 a1 M
theorem PX4_hasSameOwners_2 {sh : Nat → Nat × Nat} {t : Nat} {rm : Nat × Nat × Nat} {cs : Nat × Nat} {R : f_Rt} {M : e_M} (C : f_Hy sh t yX4_hasSameOwners rm cs 5 (lX4_hasSameOwners WX4_placeOf) R) : ∀ (n : Nat) (a0 : Nat) (a1 : Nat) (x2 : Int), WX4_hasSameOwners_2 M (fun r => R (some (.inl r)) M) n a0 a1 x2 → f_E sh t YX4_hasSameOwners rm cs (f_Q sh t R) 2 [.inr (.inr (.inl (4, 9, a0))), .inr (.inr (.inl (4, 9, a1))), .inl x2, .inr (.inr (.inr ()))] [] M := by
  intro n
  induction n with
  | zero => intro a0 a1 x2 h; exact h.elim
  | succ n ih => intro a0 a1 x2 h; exact BX4_hasSameOwners_2 C ih h
theorem PX4_hasSameOwners {sh : Nat → Nat × Nat} {t : Nat} {rm : Nat × Nat × Nat} {cs : Nat × Nat} {R : f_Rt} {a0 : Nat} {a1 : Nat} {M : e_M} (C : f_Hy sh t yX4_hasSameOwners rm cs 5 (lX4_hasSameOwners WX4_placeOf) R) (h : WX4_hasSameOwners a0 a1 M (fun r => R (some (.inl r)) M)) : f_E sh t YX4_hasSameOwners rm cs (f_Q sh t R) 0 [.inr (.inr (.inl (4, 9, a0))), .inr (.inr (.inl (4, 9, a1))), .inr (.inr (.inr ())), .inr (.inr (.inr ()))] [] M :=
  BX4_hasSameOwners C (fun a0 a1 x2 ⟨j, h⟩ => PX4_hasSameOwners_2 C j _ _ _ h) h
def wX4_hasSameOwners : f_Wt := f_wm [(3, 4, 9), (3, 4, 9)] (fun ar M R => WX4_hasSameOwners (f_va (f_nth ar 0)) (f_va (f_nth ar 1)) M (fun r => R (some (.inl r)) M))
theorem TX4_hasSameOwners {sh : Nat → Nat × Nat} {t : Nat} : f_Mt sh t YX4_hasSameOwners 5 (wX4_hasSameOwners) :=
  f_Mt_of (k := 2) (Nat.le_of_ble_eq_true rfl) rfl rfl (fun ar M R rm cs h1 h2 h3 hX h => PX4_hasSameOwners ⟨Nat.le_of_ble_eq_true rfl, h1, h2, h3, ⟨(f_Mt.up (Nat.le_of_ble_eq_true rfl) TX4_placeOf), trivial⟩, hX⟩ h)
def VX8_isSame_15 (k15 : Nat → Nat → Int → Prop) (Q : Int → Prop) (a0 : Nat) (a1 : Nat) (x2 : Int) (M : e_M) : Prop :=
  (((M a0 1) ≤ x2 → (Q 1)) ∧ (x2 < (M a0 1) → ((0 ≤ x2 ∧ x2 < 8) ∧ ((0 ≤ x2 ∧ x2 < 8) ∧ (((M (a0 + 1) (x2.toNat)) = (M (a1 + 1) (x2.toNat)) → (k15 a0 a1 (e_w32 (x2 + 1)))) ∧ (¬ (M (a0 + 1) (x2.toNat)) = (M (a1 + 1) (x2.toNat)) → (Q 0)))))))
def VX8_isSame (k15 : Nat → Nat → Int → Prop) (Q : Int → Prop) (a0 : Nat) (a1 : Nat) (M : e_M) : Prop :=
  (((M a0 1) = (M a1 1) → (k15 a0 a1 0)) ∧ (¬ (M a0 1) = (M a1 1) → (Q 0)))
def yX8_isSame (i : Nat) : e_Y := x_get YX8_isSame [] i
def pX8_isSamef : List x_I := [(0, 4, 1, 0, 0, 0, []), (1, 25, 8, 1, 0, 0, []), (4, 4, 1, 1, 0, 0, []), (5, 25, 8, 1, 0, 0, []), (8, 18, 13, 0, 8, 0, []), (11, 0, 1, 0, 0, 0, []), (12, 48, 0, 0, 0, 0, []), (13, 0, 1, 0, 0, 0, []), (14, 5, 1, 2, 0, 0, []), (15, 49, 0, 0, 0, 0, []), (15, 2, 1, 2, 0, 0, []), (16, 4, 1, 0, 0, 0, []), (17, 25, 8, 1, 0, 0, []), (20, 18, 46, 3, 28, 0, []), (23, 4, 1, 0, 0, 0, []), (24, 25, 8, 0, 4, 0, [(0, 20, 8), (0, 1, 1)]), (27, 2, 1, 2, 0, 0, []), (28, 27, 0, 0, 0, 0, []), (29, 4, 1, 1, 0, 0, []), (30, 25, 8, 0, 4, 0, [(0, 20, 8), (0, 1, 1)]), (33, 2, 1, 2, 0, 0, []), (34, 27, 0, 0, 0, 0, []), (35, 18, 40, 0, 26, 0, []), (38, 0, 1, 0, 0, 0, []), (39, 48, 0, 0, 0, 0, []), (40, 8, 0, 2, 0, 1, []), (43, 19, 15, 0, 10, 0, []), (46, 0, 1, 0, 0, 1, []), (47, 48, 0, 0, 0, 0, [])]
set_option maxRecDepth 20000 in
theorem qX8_isSamef : f_all yX8_isSame YX8_isSame pX8_isSamef :=
  ⟨f_aload_n (n := 0) (e_dx DX8_isSame_0 0 rfl) rfl,
  f_getf (e_dx DX8_isSame_0 1 rfl) fX8_15 rfl (by decide) (by decide) (by decide),
  f_aload_n (n := 1) (e_dx DX8_isSame_0 2 rfl) rfl,
  f_getf (e_dx DX8_isSame_0 3 rfl) fX8_15 rfl (by decide) (by decide) (by decide),
  f_icmp_eq (e_dx DX8_isSame_0 4 rfl) rfl,
  f_iconst (e_dx DX8_isSame_0 5 rfl) ⟨by decide, by decide⟩,
  ⟨(e_dx DX8_isSame_0 6 rfl), rfl⟩,
  f_iconst (e_dx DX8_isSame_0 7 rfl) ⟨by decide, by decide⟩,
  f_istore_n (n := 2) (e_dx DX8_isSame_0 8 rfl) rfl (by decide),
  trivial,
  f_iload_n (n := 2) (e_dx DX8_isSame_0 9 rfl) rfl,
  f_aload_n (n := 0) (e_dx DX8_isSame_0 10 rfl) rfl,
  f_getf (e_dx DX8_isSame_0 11 rfl) fX8_15 rfl (by decide) (by decide) (by decide),
  f_icmp_ge (e_dx DX8_isSame_0 12 rfl) rfl,
  f_aload_n (n := 0) (e_dx DX8_isSame_0 13 rfl) rfl,
  f_getA (e_dx DX8_isSame_0 14 rfl) fX8_9 rfl (by decide) (Nat.le_of_ble_eq_true rfl) rfl (by decide),
  f_iload_n (n := 2) (e_dx DX8_isSame_0 15 rfl) rfl,
  f_iaload (e_dx DX8_isSame_0 16 rfl),
  f_aload_n (n := 1) (e_dx DX8_isSame_0 17 rfl) rfl,
  f_getA (e_dx DX8_isSame_0 18 rfl) fX8_9 rfl (by decide) (Nat.le_of_ble_eq_true rfl) rfl (by decide),
  f_iload_n (n := 2) (e_dx DX8_isSame_0 19 rfl) rfl,
  f_iaload (e_dx DX8_isSame_0 20 rfl),
  f_icmp_eq (e_dx DX8_isSame_0 21 rfl) rfl,
  f_iconst (e_dx DX8_isSame_0 22 rfl) ⟨by decide, by decide⟩,
  ⟨(e_dx DX8_isSame_0 23 rfl), rfl⟩,
  f_g8 (e_dx DX8_isSame_0 24 rfl) ⟨by decide, by decide⟩,
  f_g19 (e_dx DX8_isSame_0 25 rfl) rfl,
  f_iconst (e_dx DX8_isSame_0 26 rfl) ⟨by decide, by decide⟩,
  ⟨(e_dx DX8_isSame_0 27 rfl), rfl⟩, trivial⟩
def lX8_isSame : List (Nat × f_Wt) := []
set_option maxRecDepth 20000 in
theorem BX8_isSame_15 {sh : Nat → Nat × Nat} {t : Nat} {rm : Nat × Nat × Nat} {cs : Nat × Nat} {R : f_Rt} {k15 : Nat → Nat → Int → Prop} {a0 : Nat} {a1 : Nat} {x2 : Int} {M : e_M} (C : f_Hy sh t yX8_isSame rm cs 4 (lX8_isSame) R) (h15 : ∀ (a0 : Nat) (a1 : Nat) (x2 : Int), k15 a0 a1 x2 → f_E sh t YX8_isSame rm cs (f_Q sh t R) 15 [.inr (.inr (.inl (8, 2, a0))), .inr (.inr (.inl (8, 2, a1))), .inl x2] [] M) (h : VX8_isSame_15 k15 (fun r => R (some (.inl r)) M) a0 a1 x2 M) : f_E sh t YX8_isSame rm cs (f_Q sh t R) 15 [.inr (.inr (.inl (8, 2, a0))), .inr (.inr (.inl (8, 2, a1))), .inl x2] [] M := by
  rw [f_kk3 M k15] at h
  exact f_go (KC := f_kc [(15, f_pl [(3, 8, 2), (3, 8, 2), (1, 0, 0)] [] (fun ls st M2 => M2 = M ∧ (k15 (f_va (f_nth ls 0)) (f_va (f_nth ls 1)) (f_vi (f_nth ls 2)))))]) C qX8_isSamef (f_kc_cons (f_pl_ok rfl (fun ls st M2 ⟨e, hh⟩ => by subst e; exact h15 _ _ _ hh)) f_kc_nil) 31 10 h
set_option maxRecDepth 20000 in
theorem BX8_isSame {sh : Nat → Nat × Nat} {t : Nat} {rm : Nat × Nat × Nat} {cs : Nat × Nat} {R : f_Rt} {k15 : Nat → Nat → Int → Prop} {a0 : Nat} {a1 : Nat} {M : e_M} (C : f_Hy sh t yX8_isSame rm cs 4 (lX8_isSame) R) (h15 : ∀ (a0 : Nat) (a1 : Nat) (x2 : Int), k15 a0 a1 x2 → f_E sh t YX8_isSame rm cs (f_Q sh t R) 15 [.inr (.inr (.inl (8, 2, a0))), .inr (.inr (.inl (8, 2, a1))), .inl x2] [] M) (h : VX8_isSame k15 (fun r => R (some (.inl r)) M) a0 a1 M) : f_E sh t YX8_isSame rm cs (f_Q sh t R) 0 [.inr (.inr (.inl (8, 2, a0))), .inr (.inr (.inl (8, 2, a1))), .inr (.inr (.inr ()))] [] M := by
  rw [f_kk3 M k15] at h
  exact f_go (KC := f_kc [(15, f_pl [(3, 8, 2), (3, 8, 2), (1, 0, 0)] [] (fun ls st M2 => M2 = M ∧ (k15 (f_va (f_nth ls 0)) (f_va (f_nth ls 1)) (f_vi (f_nth ls 2)))))]) C qX8_isSamef (f_kc_cons (f_pl_ok rfl (fun ls st M2 ⟨e, hh⟩ => by subst e; exact h15 _ _ _ hh)) f_kc_nil) 31 0 h
def WX8_isSame_15 (M : e_M) (Q : Int → Prop) : Nat → Nat → Nat → Int → Prop
  | 0, _, _, _ => False
  | n + 1, a0, a1, x2 =>
    VX8_isSame_15 (WX8_isSame_15 M Q n) Q a0 a1 x2 M
def WX8_isSame (a0 : Nat) (a1 : Nat) (M : e_M) (Q : Int → Prop) : Prop :=
  VX8_isSame (fun a0 a1 x2 => ∃ j, WX8_isSame_15 M Q j a0 a1 x2) Q a0 a1 M
theorem PX8_isSame_15 {sh : Nat → Nat × Nat} {t : Nat} {rm : Nat × Nat × Nat} {cs : Nat × Nat} {R : f_Rt} {M : e_M} (C : f_Hy sh t yX8_isSame rm cs 4 (lX8_isSame) R) : ∀ (n : Nat) (a0 : Nat) (a1 : Nat) (x2 : Int), WX8_isSame_15 M (fun r => R (some (.inl r)) M) n a0 a1 x2 → f_E sh t YX8_isSame rm cs (f_Q sh t R) 15 [.inr (.inr (.inl (8, 2, a0))), .inr (.inr (.inl (8, 2, a1))), .inl x2] [] M := by
  intro n
  induction n with
  | zero => intro a0 a1 x2 h; exact h.elim
  | succ n ih => intro a0 a1 x2 h; exact BX8_isSame_15 C ih h
theorem PX8_isSame {sh : Nat → Nat × Nat} {t : Nat} {rm : Nat × Nat × Nat} {cs : Nat × Nat} {R : f_Rt} {a0 : Nat} {a1 : Nat} {M : e_M} (C : f_Hy sh t yX8_isSame rm cs 4 (lX8_isSame) R) (h : WX8_isSame a0 a1 M (fun r => R (some (.inl r)) M)) : f_E sh t YX8_isSame rm cs (f_Q sh t R) 0 [.inr (.inr (.inl (8, 2, a0))), .inr (.inr (.inl (8, 2, a1))), .inr (.inr (.inr ()))] [] M :=
  BX8_isSame C (fun a0 a1 x2 ⟨j, h⟩ => PX8_isSame_15 C j _ _ _ h) h
def wX8_isSame : f_Wt := f_wm [(3, 8, 2), (3, 8, 2)] (fun ar M R => WX8_isSame (f_va (f_nth ar 0)) (f_va (f_nth ar 1)) M (fun r => R (some (.inl r)) M))
theorem TX8_isSame {sh : Nat → Nat × Nat} {t : Nat} : f_Mt sh t YX8_isSame 4 (wX8_isSame) :=
  f_Mt_of (k := 1) (Nat.le_of_ble_eq_true rfl) rfl rfl (fun ar M R rm cs h1 h2 h3 hX h => PX8_isSame ⟨Nat.le_of_ble_eq_true rfl, h1, h2, h3, trivial, hX⟩ h)
def VX0_areOnBoth_3 (c_X10_at : Nat → Int → Int → e_M → (Nat → Prop) → Prop) (c_X9_isThere : Nat → Int → e_M → (Int → Prop) → Prop) (c_X8_has : Nat → Int → e_M → (Int → Prop) → Prop) (k67 : Int → Int → Int → Int → Prop) (Q : Int → Prop) (x1 : Int) (x2 : Int) (x3 : Int) (x4 : Int) (M : e_M) : Prop :=
  ((0 ≤ x1 ∧ x1 < 8) ∧ (((M ((M 4423 0).toNat + 24) (x1.toNat)) ≤ x4 → (Q 1)) ∧ (x4 < (M ((M 4423 0).toNat + 24) (x1.toNat)) → (c_X10_at ((M 4423 0).toNat) x1 x4 M (fun r1 => (c_X9_isThere r1 (M ((M 4423 0).toNat) 11) M (fun r2 => ((r2 = 0 → (k67 x1 x2 x3 x4)) ∧ (¬ r2 = 0 → (c_X8_has ((M r1 9).toNat) x2 M (fun r3 => (c_X8_has ((M r1 9).toNat) x3 M (fun r4 => ((r3 = r4 → (k67 x1 x2 x3 x4)) ∧ (¬ r3 = r4 → (Q 0))))))))))))))))
def VX0_areOnBoth_67 (c_X10_at : Nat → Int → Int → e_M → (Nat → Prop) → Prop) (c_X9_isThere : Nat → Int → e_M → (Int → Prop) → Prop) (c_X8_has : Nat → Int → e_M → (Int → Prop) → Prop) (k3 : Int → Int → Int → Int → Prop) (Q : Int → Prop) (x1 : Int) (x2 : Int) (x3 : Int) (x4 : Int) (M : e_M) : Prop :=
  (k3 x1 x2 x3 (e_w32 (x4 + 1)))
def VX0_areOnBoth (c_X10_at : Nat → Int → Int → e_M → (Nat → Prop) → Prop) (c_X9_isThere : Nat → Int → e_M → (Int → Prop) → Prop) (c_X8_has : Nat → Int → e_M → (Int → Prop) → Prop) (k3 : Int → Int → Int → Int → Prop) (Q : Int → Prop) (x1 : Int) (x2 : Int) (x3 : Int) (M : e_M) : Prop :=
  (k3 x1 x2 x3 0)
def yX0_areOnBoth (i : Nat) : e_Y := x_get YX0_areOnBoth [YX10_at, YX9_isThere, YX8_has] i
def pX0_areOnBothf : List x_I := [(0, 0, 1, 0, 0, 0, []), (1, 5, 2, 4, 0, 0, []), (3, 49, 0, 0, 0, 0, []), (3, 2, 2, 4, 0, 0, []), (5, 4, 1, 0, 0, 0, []), (6, 25, 0, 0, 4, 0, [(0, 10, 15), (0, 0, 0)]), (9, 25, 10, 4, 4, 0, [(0, 20, 8), (0, 1, 24)]), (12, 2, 1, 1, 0, 0, []), (13, 27, 0, 0, 0, 0, []), (14, 18, 73, 3, 37, 0, []), (17, 4, 1, 0, 0, 0, []), (18, 25, 0, 0, 4, 0, [(0, 10, 15), (0, 0, 0)]), (21, 2, 1, 1, 0, 0, []), (22, 2, 2, 4, 0, 0, []), (24, 40, 0, 3, 12, 0, []), (27, 7, 2, 5, 0, 0, []), (29, 4, 2, 5, 0, 0, []), (31, 4, 1, 0, 0, 0, []), (32, 25, 0, 0, 4, 0, [(0, 10, 15), (0, 0, 0)]), (35, 25, 10, 11, 0, 0, []), (38, 40, 1, 2, 11, 0, []), (41, 17, 67, 0, 34, 0, []), (44, 4, 2, 5, 0, 0, []), (46, 25, 9, 9, 4, 0, [(0, 8, 2), (0, 0, 0)]), (49, 2, 1, 2, 0, 0, []), (50, 40, 2, 2, 10, 0, []), (53, 4, 2, 5, 0, 0, []), (55, 25, 9, 9, 4, 0, [(0, 8, 2), (0, 0, 0)]), (58, 2, 1, 3, 0, 0, []), (59, 40, 2, 2, 10, 0, []), (62, 18, 67, 0, 34, 0, []), (65, 0, 1, 0, 0, 0, []), (66, 48, 0, 0, 0, 0, []), (67, 49, 0, 0, 0, 0, []), (67, 8, 0, 4, 0, 1, []), (70, 19, 3, 0, 3, 0, []), (73, 0, 1, 0, 0, 1, []), (74, 48, 0, 0, 0, 0, [])]
set_option maxRecDepth 20000 in
theorem qX0_areOnBothf : f_all yX0_areOnBoth YX0_areOnBoth pX0_areOnBothf :=
  ⟨f_iconst (e_dx DX0_areOnBoth_0 0 rfl) ⟨by decide, by decide⟩,
  f_istore (e_dx DX0_areOnBoth_0 1 rfl) (by decide),
  trivial,
  f_iload (e_dx DX0_areOnBoth_0 2 rfl),
  f_aload_n (n := 0) (e_dx DX0_areOnBoth_0 3 rfl) rfl,
  f_getA (e_dx DX0_areOnBoth_0 4 rfl) fX0_36 rfl (by decide) (Nat.le_of_ble_eq_true rfl) rfl (by decide),
  f_getA (e_dx DX0_areOnBoth_0 5 rfl) fX0_174 rfl (by decide) (Nat.le_of_ble_eq_true rfl) rfl (by decide),
  f_iload_n (n := 1) (e_dx DX0_areOnBoth_0 6 rfl) rfl,
  f_iaload (e_dx DX0_areOnBoth_0 7 rfl),
  f_icmp_ge (e_dx DX0_areOnBoth_0 8 rfl) rfl,
  f_aload_n (n := 0) (e_dx DX0_areOnBoth_0 9 rfl) rfl,
  f_getA (e_dx DX0_areOnBoth_0 10 rfl) fX0_36 rfl (by decide) (Nat.le_of_ble_eq_true rfl) rfl (by decide),
  f_iload_n (n := 1) (e_dx DX0_areOnBoth_0 11 rfl) rfl,
  f_iload (e_dx DX0_areOnBoth_0 12 rfl),
  x_callV (e_dx DX0_areOnBoth_0 13 rfl) mwX10_at vwX10_at cX0_152 rfl,
  f_astore (e_dx DX0_areOnBoth_0 14 rfl) (by decide),
  f_aload (e_dx DX0_areOnBoth_0 15 rfl),
  f_aload_n (n := 0) (e_dx DX0_areOnBoth_0 16 rfl) rfl,
  f_getA (e_dx DX0_areOnBoth_0 17 rfl) fX0_36 rfl (by decide) (Nat.le_of_ble_eq_true rfl) rfl (by decide),
  f_getf (e_dx DX0_areOnBoth_0 18 rfl) fX0_49 rfl (by decide) (by decide) (by decide),
  x_callV (e_dx DX0_areOnBoth_0 19 rfl) mwX9_isThere vwX9_isThere cX0_177 rfl,
  f_if_eq (e_dx DX0_areOnBoth_0 20 rfl) rfl,
  f_aload (e_dx DX0_areOnBoth_0 21 rfl),
  f_getA (e_dx DX0_areOnBoth_0 22 rfl) fX0_179 rfl (by decide) (Nat.le_of_ble_eq_true rfl) rfl (by decide),
  f_iload_n (n := 2) (e_dx DX0_areOnBoth_0 23 rfl) rfl,
  x_callV (e_dx DX0_areOnBoth_0 24 rfl) mwX8_has vwX8_has cX0_183 rfl,
  f_aload (e_dx DX0_areOnBoth_0 25 rfl),
  f_getA (e_dx DX0_areOnBoth_0 26 rfl) fX0_179 rfl (by decide) (Nat.le_of_ble_eq_true rfl) rfl (by decide),
  f_iload_n (n := 3) (e_dx DX0_areOnBoth_0 27 rfl) rfl,
  x_callV (e_dx DX0_areOnBoth_0 28 rfl) mwX8_has vwX8_has cX0_183 rfl,
  f_icmp_eq (e_dx DX0_areOnBoth_0 29 rfl) rfl,
  f_iconst (e_dx DX0_areOnBoth_0 30 rfl) ⟨by decide, by decide⟩,
  ⟨(e_dx DX0_areOnBoth_0 31 rfl), rfl⟩,
  trivial,
  f_g8 (e_dx DX0_areOnBoth_0 32 rfl) ⟨by decide, by decide⟩,
  f_g19 (e_dx DX0_areOnBoth_0 33 rfl) rfl,
  f_iconst (e_dx DX0_areOnBoth_0 34 rfl) ⟨by decide, by decide⟩,
  ⟨(e_dx DX0_areOnBoth_0 35 rfl), rfl⟩, trivial⟩
def lX0_areOnBoth (c_X10_at : Nat → Int → Int → e_M → (Nat → Prop) → Prop) (c_X9_isThere : Nat → Int → e_M → (Int → Prop) → Prop) (c_X8_has : Nat → Int → e_M → (Int → Prop) → Prop) : List (Nat × f_Wt) := [(0, f_wm [(3, 10, 15), (1, 0, 0), (1, 0, 0)] (fun ar M R => c_X10_at (f_va (f_nth ar 0)) (f_vi (f_nth ar 1)) (f_vi (f_nth ar 2)) M (fun r => R (some (.inr (.inr (.inl (9, 14, r))))) M))), (1, f_wm [(3, 9, 14), (1, 0, 0)] (fun ar M R => c_X9_isThere (f_va (f_nth ar 0)) (f_vi (f_nth ar 1)) M (fun r => R (some (.inl r)) M))), (2, f_wm [(3, 8, 2), (1, 0, 0)] (fun ar M R => c_X8_has (f_va (f_nth ar 0)) (f_vi (f_nth ar 1)) M (fun r => R (some (.inl r)) M)))]
set_option maxRecDepth 20000 in
theorem BX0_areOnBoth_3 {sh : Nat → Nat × Nat} {t : Nat} {rm : Nat × Nat × Nat} {cs : Nat × Nat} {R : f_Rt} {c_X10_at : Nat → Int → Int → e_M → (Nat → Prop) → Prop} {c_X9_isThere : Nat → Int → e_M → (Int → Prop) → Prop} {c_X8_has : Nat → Int → e_M → (Int → Prop) → Prop} {k67 : Int → Int → Int → Int → Prop} {x1 : Int} {x2 : Int} {x3 : Int} {x4 : Int} {M : e_M} (C : f_Hy sh t yX0_areOnBoth rm cs 6 (lX0_areOnBoth c_X10_at c_X9_isThere c_X8_has) R) (h67 : ∀ (x1 : Int) (x2 : Int) (x3 : Int) (x4 : Int), k67 x1 x2 x3 x4 → f_E sh t YX0_areOnBoth rm cs (f_Q sh t R) 67 [.inr (.inr (.inl (0, 7, 4423))), .inl x1, .inl x2, .inl x3, .inl x4, .inr (.inr (.inr ()))] [] M) (h : VX0_areOnBoth_3 c_X10_at c_X9_isThere c_X8_has k67 (fun r => R (some (.inl r)) M) x1 x2 x3 x4 M) : f_E sh t YX0_areOnBoth rm cs (f_Q sh t R) 3 [.inr (.inr (.inl (0, 7, 4423))), .inl x1, .inl x2, .inl x3, .inl x4, .inr (.inr (.inr ()))] [] M := by
  rw [f_kk4 M k67] at h
  exact f_go (KC := f_kc [(67, f_pl [(4433, 0, 7), (1, 0, 0), (1, 0, 0), (1, 0, 0), (1, 0, 0), (0, 0, 0)] [] (fun ls st M2 => M2 = M ∧ (k67 (f_vi (f_nth ls 1)) (f_vi (f_nth ls 2)) (f_vi (f_nth ls 3)) (f_vi (f_nth ls 4)))))]) C qX0_areOnBothf (f_kc_cons (f_pl_ok rfl (fun ls st M2 ⟨e, hh⟩ => by subst e; exact h67 _ _ _ _ hh)) f_kc_nil) 40 3 h
set_option maxRecDepth 20000 in
theorem BX0_areOnBoth_67 {sh : Nat → Nat × Nat} {t : Nat} {rm : Nat × Nat × Nat} {cs : Nat × Nat} {R : f_Rt} {c_X10_at : Nat → Int → Int → e_M → (Nat → Prop) → Prop} {c_X9_isThere : Nat → Int → e_M → (Int → Prop) → Prop} {c_X8_has : Nat → Int → e_M → (Int → Prop) → Prop} {k3 : Int → Int → Int → Int → Prop} {x1 : Int} {x2 : Int} {x3 : Int} {x4 : Int} {M : e_M} (C : f_Hy sh t yX0_areOnBoth rm cs 6 (lX0_areOnBoth c_X10_at c_X9_isThere c_X8_has) R) (h3 : ∀ (x1 : Int) (x2 : Int) (x3 : Int) (x4 : Int), k3 x1 x2 x3 x4 → f_E sh t YX0_areOnBoth rm cs (f_Q sh t R) 3 [.inr (.inr (.inl (0, 7, 4423))), .inl x1, .inl x2, .inl x3, .inl x4, .inr (.inr (.inr ()))] [] M) (h : VX0_areOnBoth_67 c_X10_at c_X9_isThere c_X8_has k3 (fun r => R (some (.inl r)) M) x1 x2 x3 x4 M) : f_E sh t YX0_areOnBoth rm cs (f_Q sh t R) 67 [.inr (.inr (.inl (0, 7, 4423))), .inl x1, .inl x2, .inl x3, .inl x4, .inr (.inr (.inr ()))] [] M := by
  rw [f_kk4 M k3] at h
  exact f_go (KC := f_kc [(3, f_pl [(4433, 0, 7), (1, 0, 0), (1, 0, 0), (1, 0, 0), (1, 0, 0), (0, 0, 0)] [] (fun ls st M2 => M2 = M ∧ (k3 (f_vi (f_nth ls 1)) (f_vi (f_nth ls 2)) (f_vi (f_nth ls 3)) (f_vi (f_nth ls 4)))))]) C qX0_areOnBothf (f_kc_cons (f_pl_ok rfl (fun ls st M2 ⟨e, hh⟩ => by subst e; exact h3 _ _ _ _ hh)) f_kc_nil) 40 34 h
set_option maxRecDepth 20000 in
theorem BX0_areOnBoth {sh : Nat → Nat × Nat} {t : Nat} {rm : Nat × Nat × Nat} {cs : Nat × Nat} {R : f_Rt} {c_X10_at : Nat → Int → Int → e_M → (Nat → Prop) → Prop} {c_X9_isThere : Nat → Int → e_M → (Int → Prop) → Prop} {c_X8_has : Nat → Int → e_M → (Int → Prop) → Prop} {k3 : Int → Int → Int → Int → Prop} {x1 : Int} {x2 : Int} {x3 : Int} {M : e_M} (C : f_Hy sh t yX0_areOnBoth rm cs 6 (lX0_areOnBoth c_X10_at c_X9_isThere c_X8_has) R) (h3 : ∀ (x1 : Int) (x2 : Int) (x3 : Int) (x4 : Int), k3 x1 x2 x3 x4 → f_E sh t YX0_areOnBoth rm cs (f_Q sh t R) 3 [.inr (.inr (.inl (0, 7, 4423))), .inl x1, .inl x2, .inl x3, .inl x4, .inr (.inr (.inr ()))] [] M) (h : VX0_areOnBoth c_X10_at c_X9_isThere c_X8_has k3 (fun r => R (some (.inl r)) M) x1 x2 x3 M) : f_E sh t YX0_areOnBoth rm cs (f_Q sh t R) 0 [.inr (.inr (.inl (0, 7, 4423))), .inl x1, .inl x2, .inl x3, .inr (.inr (.inr ())), .inr (.inr (.inr ()))] [] M := by
  rw [f_kk4 M k3] at h
  exact f_go (KC := f_kc [(3, f_pl [(4433, 0, 7), (1, 0, 0), (1, 0, 0), (1, 0, 0), (1, 0, 0), (0, 0, 0)] [] (fun ls st M2 => M2 = M ∧ (k3 (f_vi (f_nth ls 1)) (f_vi (f_nth ls 2)) (f_vi (f_nth ls 3)) (f_vi (f_nth ls 4)))))]) C qX0_areOnBothf (f_kc_cons (f_pl_ok rfl (fun ls st M2 ⟨e, hh⟩ => by subst e; exact h3 _ _ _ _ hh)) f_kc_nil) 40 0 h
def WX0_areOnBoth_67 (M : e_M) (H3 : Int → Int → Int → Int → Prop) (Q : Int → Prop) (x1 : Int) (x2 : Int) (x3 : Int) (x4 : Int) : Prop :=
  VX0_areOnBoth_67 WX10_at WX9_isThere WX8_has H3 Q x1 x2 x3 x4 M
def WX0_areOnBoth_3 (M : e_M) (Q : Int → Prop) : Nat → Int → Int → Int → Int → Prop
  | 0, _, _, _, _ => False
  | n + 1, x1, x2, x3, x4 =>
    VX0_areOnBoth_3 WX10_at WX9_isThere WX8_has (WX0_areOnBoth_67 M (WX0_areOnBoth_3 M Q n) Q) Q x1 x2 x3 x4 M
def WX0_areOnBoth (x1 : Int) (x2 : Int) (x3 : Int) (M : e_M) (Q : Int → Prop) : Prop :=
  VX0_areOnBoth WX10_at WX9_isThere WX8_has (fun x1 x2 x3 x4 => ∃ j, WX0_areOnBoth_3 M Q j x1 x2 x3 x4) Q x1 x2 x3 M
theorem PX0_areOnBoth_67 {sh : Nat → Nat × Nat} {t : Nat} {rm : Nat × Nat × Nat} {cs : Nat × Nat} {R : f_Rt} {H3 : Int → Int → Int → Int → Prop} {x1 : Int} {x2 : Int} {x3 : Int} {x4 : Int} {M : e_M} (C : f_Hy sh t yX0_areOnBoth rm cs 6 (lX0_areOnBoth WX10_at WX9_isThere WX8_has) R) (g3 : ∀ (x1 : Int) (x2 : Int) (x3 : Int) (x4 : Int), H3 x1 x2 x3 x4 → f_E sh t YX0_areOnBoth rm cs (f_Q sh t R) 3 [.inr (.inr (.inl (0, 7, 4423))), .inl x1, .inl x2, .inl x3, .inl x4, .inr (.inr (.inr ()))] [] M) (h : WX0_areOnBoth_67 M H3 (fun r => R (some (.inl r)) M) x1 x2 x3 x4) : f_E sh t YX0_areOnBoth rm cs (f_Q sh t R) 67 [.inr (.inr (.inl (0, 7, 4423))), .inl x1, .inl x2, .inl x3, .inl x4, .inr (.inr (.inr ()))] [] M :=
  BX0_areOnBoth_67 C g3 h
theorem PX0_areOnBoth_3 {sh : Nat → Nat × Nat} {t : Nat} {rm : Nat × Nat × Nat} {cs : Nat × Nat} {R : f_Rt} {M : e_M} (C : f_Hy sh t yX0_areOnBoth rm cs 6 (lX0_areOnBoth WX10_at WX9_isThere WX8_has) R) : ∀ (n : Nat) (x1 : Int) (x2 : Int) (x3 : Int) (x4 : Int), WX0_areOnBoth_3 M (fun r => R (some (.inl r)) M) n x1 x2 x3 x4 → f_E sh t YX0_areOnBoth rm cs (f_Q sh t R) 3 [.inr (.inr (.inl (0, 7, 4423))), .inl x1, .inl x2, .inl x3, .inl x4, .inr (.inr (.inr ()))] [] M := by
  intro n
  induction n with
  | zero => intro x1 x2 x3 x4 h; exact h.elim
  | succ n ih => intro x1 x2 x3 x4 h; exact BX0_areOnBoth_3 C (fun x1 x2 x3 x4 h => PX0_areOnBoth_67 C ih h) h
theorem PX0_areOnBoth {sh : Nat → Nat × Nat} {t : Nat} {rm : Nat × Nat × Nat} {cs : Nat × Nat} {R : f_Rt} {x1 : Int} {x2 : Int} {x3 : Int} {M : e_M} (C : f_Hy sh t yX0_areOnBoth rm cs 6 (lX0_areOnBoth WX10_at WX9_isThere WX8_has) R) (h : WX0_areOnBoth x1 x2 x3 M (fun r => R (some (.inl r)) M)) : f_E sh t YX0_areOnBoth rm cs (f_Q sh t R) 0 [.inr (.inr (.inl (0, 7, 4423))), .inl x1, .inl x2, .inl x3, .inr (.inr (.inr ())), .inr (.inr (.inr ()))] [] M :=
  BX0_areOnBoth C (fun x1 x2 x3 x4 ⟨j, h⟩ => PX0_areOnBoth_3 C j _ _ _ _ h) h
def wX0_areOnBoth : f_Wt := f_wm [(4433, 0, 7), (1, 0, 0), (1, 0, 0), (1, 0, 0)] (fun ar M R => WX0_areOnBoth (f_vi (f_nth ar 1)) (f_vi (f_nth ar 2)) (f_vi (f_nth ar 3)) M (fun r => R (some (.inl r)) M))
theorem TX0_areOnBoth {sh : Nat → Nat × Nat} {t : Nat} : f_Mt sh t YX0_areOnBoth 6 (wX0_areOnBoth) :=
  f_Mt_of (k := 2) (Nat.le_of_ble_eq_true rfl) rfl rfl (fun ar M R rm cs h1 h2 h3 hX h => PX0_areOnBoth ⟨Nat.le_of_ble_eq_true rfl, h1, h2, h3, ⟨(f_Mt.up (Nat.le_of_ble_eq_true rfl) TX10_at), (f_Mt.up (Nat.le_of_ble_eq_true rfl) TX9_isThere), (f_Mt.up (Nat.le_of_ble_eq_true rfl) TX8_has), trivial⟩, hX⟩ h)
def VX5_nearestOn_9 (c_X11_isOn : Int → Int → Int → Int → Int → Int → e_M → (Int → Prop) → Prop) (k71 : Nat → Int → Int → Int → Int → Int → Int → Int → Int → Int → Int → Prop) (k75 : Nat → Int → Int → Int → Int → Int → Int → Int → Int → Int → Int → Prop) (Q : Int → Prop) (a0 : Nat) (x1 : Int) (x2 : Int) (x3 : Int) (x4 : Int) (x5 : Int) (x6 : Int) (x7 : Int) (M : e_M) : Prop :=
  (((M a0 2) ≤ x7 → (Q x5)) ∧ (x7 < (M a0 2) → ((0 ≤ x7 ∧ x7 < 40) ∧ ((0 ≤ x7 ∧ x7 < 40) ∧ (∀ y1 : Int, y1 = e_w32 ((e_abs (e_w32 ((M (a0 + 1) (x7.toNat)) - x1))) + (e_abs (e_w32 ((M (a0 + 2) (x7.toNat)) - x2)))) → ((y1 = 0 → (k71 a0 x1 x2 x3 x4 x5 x6 x7 (M (a0 + 1) (x7.toNat)) (M (a0 + 2) (x7.toNat)) y1)) ∧ (¬ y1 = 0 → ((¬ (M (a0 + 1) (x7.toNat)) = x3 → (k75 a0 x1 x2 x3 x4 x5 x6 x7 (M (a0 + 1) (x7.toNat)) (M (a0 + 2) (x7.toNat)) y1)) ∧ ((M (a0 + 1) (x7.toNat)) = x3 → ((¬ (M (a0 + 2) (x7.toNat)) = x4 → (k75 a0 x1 x2 x3 x4 x5 x6 x7 (M (a0 + 1) (x7.toNat)) (M (a0 + 2) (x7.toNat)) y1)) ∧ ((M (a0 + 2) (x7.toNat)) = x4 → (k71 a0 x1 x2 x3 x4 x5 x6 x7 (M (a0 + 1) (x7.toNat)) (M (a0 + 2) (x7.toNat)) y1))))))))))))
def VX5_nearestOn_71 (c_X11_isOn : Int → Int → Int → Int → Int → Int → e_M → (Int → Prop) → Prop) (k76 : Nat → Int → Int → Int → Int → Int → Int → Int → Int → Int → Int → Int → Prop) (Q : Int → Prop) (a0 : Nat) (x1 : Int) (x2 : Int) (x3 : Int) (x4 : Int) (x5 : Int) (x6 : Int) (x7 : Int) (x8 : Int) (x9 : Int) (x10 : Int) (M : e_M) : Prop :=
  (k76 a0 x1 x2 x3 x4 x5 x6 x7 x8 x9 x10 1)
def VX5_nearestOn_75 (c_X11_isOn : Int → Int → Int → Int → Int → Int → e_M → (Int → Prop) → Prop) (k76 : Nat → Int → Int → Int → Int → Int → Int → Int → Int → Int → Int → Int → Prop) (Q : Int → Prop) (a0 : Nat) (x1 : Int) (x2 : Int) (x3 : Int) (x4 : Int) (x5 : Int) (x6 : Int) (x7 : Int) (x8 : Int) (x9 : Int) (x10 : Int) (M : e_M) : Prop :=
  (k76 a0 x1 x2 x3 x4 x5 x6 x7 x8 x9 x10 0)
def VX5_nearestOn_76 (c_X11_isOn : Int → Int → Int → Int → Int → Int → e_M → (Int → Prop) → Prop) (k118 : Nat → Int → Int → Int → Int → Int → Int → Int → Prop) (k95 : Nat → Int → Int → Int → Int → Int → Int → Int → Int → Int → Int → Prop) (Q : Int → Prop) (a0 : Nat) (x1 : Int) (x2 : Int) (x3 : Int) (x4 : Int) (x5 : Int) (x6 : Int) (x7 : Int) (x8 : Int) (x9 : Int) (x10 : Int) (xs0 : Int) (M : e_M) : Prop :=
  ((¬ xs0 = 0 → (k118 a0 x1 x2 x3 x4 x5 x6 x7)) ∧ (xs0 = 0 → ((x5 < 0 → (k95 a0 x1 x2 x3 x4 x5 x6 x7 x8 x9 x10)) ∧ (0 ≤ x5 → ((x6 ≤ x10 → (k118 a0 x1 x2 x3 x4 x5 x6 x7)) ∧ (x10 < x6 → (k95 a0 x1 x2 x3 x4 x5 x6 x7 x8 x9 x10)))))))
def VX5_nearestOn_95 (c_X11_isOn : Int → Int → Int → Int → Int → Int → e_M → (Int → Prop) → Prop) (k118 : Nat → Int → Int → Int → Int → Int → Int → Int → Prop) (Q : Int → Prop) (a0 : Nat) (x1 : Int) (x2 : Int) (x3 : Int) (x4 : Int) (x5 : Int) (x6 : Int) (x7 : Int) (x8 : Int) (x9 : Int) (x10 : Int) (M : e_M) : Prop :=
  (c_X11_isOn x1 x2 x3 x4 x8 x9 M (fun r1 => ((r1 = 0 → (k118 a0 x1 x2 x3 x4 x5 x6 x7)) ∧ (¬ r1 = 0 → (k118 a0 x1 x2 x3 x4 x7 x10 x7)))))
def VX5_nearestOn_118 (c_X11_isOn : Int → Int → Int → Int → Int → Int → e_M → (Int → Prop) → Prop) (k9 : Nat → Int → Int → Int → Int → Int → Int → Int → Prop) (Q : Int → Prop) (a0 : Nat) (x1 : Int) (x2 : Int) (x3 : Int) (x4 : Int) (x5 : Int) (x6 : Int) (x7 : Int) (M : e_M) : Prop :=
  (k9 a0 x1 x2 x3 x4 x5 x6 (e_w32 (x7 + 1)))
def VX5_nearestOn (c_X11_isOn : Int → Int → Int → Int → Int → Int → e_M → (Int → Prop) → Prop) (k9 : Nat → Int → Int → Int → Int → Int → Int → Int → Prop) (Q : Int → Prop) (a0 : Nat) (x1 : Int) (x2 : Int) (x3 : Int) (x4 : Int) (M : e_M) : Prop :=
  (k9 a0 x1 x2 x3 x4 (-1) 0 0)
def yX5_nearestOn (i : Nat) : e_Y := x_get YX5_nearestOn [YX11_isOn] i
def pX5_nearestOnf : List x_I := [(0, 0, 1, 0, 0, (-1), []), (1, 5, 2, 5, 0, 0, []), (3, 0, 1, 0, 0, 0, []), (4, 5, 2, 6, 0, 0, []), (6, 0, 1, 0, 0, 0, []), (7, 5, 2, 7, 0, 0, []), (9, 49, 0, 0, 0, 0, []), (9, 2, 2, 7, 0, 0, []), (11, 4, 1, 0, 0, 0, []), (12, 25, 3, 2, 0, 0, []), (15, 18, 124, 3, 71, 0, []), (18, 4, 1, 0, 0, 0, []), (19, 25, 3, 0, 4, 0, [(0, 20, 40), (0, 1, 1)]), (22, 2, 2, 7, 0, 0, []), (24, 27, 0, 0, 0, 0, []), (25, 5, 2, 8, 0, 0, []), (27, 4, 1, 0, 0, 0, []), (28, 25, 3, 1, 4, 0, [(0, 20, 40), (0, 1, 2)]), (31, 2, 2, 7, 0, 0, []), (33, 27, 0, 0, 0, 0, []), (34, 5, 2, 9, 0, 0, []), (36, 2, 2, 8, 0, 0, []), (38, 2, 1, 1, 0, 0, []), (39, 9, 0, 1, 0, 0, []), (40, 16, 0, 0, 0, 0, []), (43, 2, 2, 9, 0, 0, []), (45, 2, 1, 2, 0, 0, []), (46, 9, 0, 1, 0, 0, []), (47, 16, 0, 0, 0, 0, []), (50, 9, 0, 0, 0, 0, []), (51, 33, 0, 0, 0, 0, []), (51, 5, 2, 10, 0, 0, []), (53, 2, 2, 10, 0, 0, []), (55, 17, 71, 0, 41, 0, []), (58, 2, 2, 8, 0, 0, []), (60, 2, 1, 3, 0, 0, []), (61, 18, 75, 1, 44, 0, []), (64, 2, 2, 9, 0, 0, []), (66, 2, 2, 4, 0, 0, []), (68, 18, 75, 1, 44, 0, []), (71, 49, 0, 0, 0, 0, []), (71, 0, 1, 0, 0, 1, []), (72, 19, 76, 0, 46, 0, []), (75, 49, 0, 0, 0, 0, []), (75, 0, 1, 0, 0, 0, []), (76, 49, 0, 0, 0, 0, []), (76, 5, 2, 11, 0, 0, []), (78, 2, 2, 11, 0, 0, []), (80, 17, 118, 1, 68, 0, []), (83, 2, 2, 5, 0, 0, []), (85, 17, 95, 2, 55, 0, []), (88, 2, 2, 10, 0, 0, []), (90, 2, 2, 6, 0, 0, []), (92, 18, 118, 3, 68, 0, []), (95, 49, 0, 0, 0, 0, []), (95, 2, 1, 1, 0, 0, []), (96, 2, 1, 2, 0, 0, []), (97, 2, 1, 3, 0, 0, []), (98, 2, 2, 4, 0, 0, []), (100, 2, 2, 8, 0, 0, []), (102, 2, 2, 9, 0, 0, []), (104, 40, 0, 6, 0, 0, []), (107, 17, 118, 0, 68, 0, []), (110, 2, 2, 7, 0, 0, []), (112, 5, 2, 5, 0, 0, []), (114, 2, 2, 10, 0, 0, []), (116, 5, 2, 6, 0, 0, []), (118, 49, 0, 0, 0, 0, []), (118, 8, 0, 7, 0, 1, []), (121, 19, 9, 0, 7, 0, []), (124, 2, 2, 5, 0, 0, []), (126, 41, 0, 0, 0, 0, [])]
set_option maxRecDepth 20000 in
theorem qX5_nearestOnf : f_all yX5_nearestOn YX5_nearestOn pX5_nearestOnf :=
  ⟨f_iconst (e_dx DX5_nearestOn_0 0 rfl) ⟨by decide, by decide⟩,
  f_istore (e_dx DX5_nearestOn_0 1 rfl) (by decide),
  f_iconst (e_dx DX5_nearestOn_0 2 rfl) ⟨by decide, by decide⟩,
  f_istore (e_dx DX5_nearestOn_0 3 rfl) (by decide),
  f_iconst (e_dx DX5_nearestOn_0 4 rfl) ⟨by decide, by decide⟩,
  f_istore (e_dx DX5_nearestOn_0 5 rfl) (by decide),
  trivial,
  f_iload (e_dx DX5_nearestOn_0 6 rfl),
  f_aload_n (n := 0) (e_dx DX5_nearestOn_0 7 rfl) rfl,
  f_getf (e_dx DX5_nearestOn_0 8 rfl) fX5_89 rfl (by decide) (by decide) (by decide),
  f_icmp_ge (e_dx DX5_nearestOn_0 9 rfl) rfl,
  f_aload_n (n := 0) (e_dx DX5_nearestOn_0 10 rfl) rfl,
  f_getA (e_dx DX5_nearestOn_0 11 rfl) fX5_96 rfl (by decide) (Nat.le_of_ble_eq_true rfl) rfl (by decide),
  f_iload (e_dx DX5_nearestOn_0 12 rfl),
  f_iaload (e_dx DX5_nearestOn_0 13 rfl),
  f_istore (e_dx DX5_nearestOn_0 14 rfl) (by decide),
  f_aload_n (n := 0) (e_dx DX5_nearestOn_0 15 rfl) rfl,
  f_getA (e_dx DX5_nearestOn_0 16 rfl) fX5_97 rfl (by decide) (Nat.le_of_ble_eq_true rfl) rfl (by decide),
  f_iload (e_dx DX5_nearestOn_0 17 rfl),
  f_iaload (e_dx DX5_nearestOn_0 18 rfl),
  f_istore (e_dx DX5_nearestOn_0 19 rfl) (by decide),
  f_iload (e_dx DX5_nearestOn_0 20 rfl),
  f_iload_n (n := 1) (e_dx DX5_nearestOn_0 21 rfl) rfl,
  f_isub (e_dx DX5_nearestOn_0 22 rfl),
  f_abs (e_dx DX5_nearestOn_0 23 rfl) cX5_114 fm_s_abs fm_i fm_c_abs,
  f_iload (e_dx DX5_nearestOn_0 24 rfl),
  f_iload_n (n := 2) (e_dx DX5_nearestOn_0 25 rfl) rfl,
  f_isub (e_dx DX5_nearestOn_0 26 rfl),
  f_abs (e_dx DX5_nearestOn_0 27 rfl) cX5_114 fm_s_abs fm_i fm_c_abs,
  f_iadd (e_dx DX5_nearestOn_0 28 rfl),
  f_g33,
  f_istore (e_dx DX5_nearestOn_0 29 rfl) (by decide),
  f_iload (e_dx DX5_nearestOn_0 30 rfl),
  f_if_eq (e_dx DX5_nearestOn_0 31 rfl) rfl,
  f_iload (e_dx DX5_nearestOn_0 32 rfl),
  f_iload_n (n := 3) (e_dx DX5_nearestOn_0 33 rfl) rfl,
  f_icmp_ne (e_dx DX5_nearestOn_0 34 rfl) rfl,
  f_iload (e_dx DX5_nearestOn_0 35 rfl),
  f_iload (e_dx DX5_nearestOn_0 36 rfl),
  f_icmp_ne (e_dx DX5_nearestOn_0 37 rfl) rfl,
  trivial,
  f_iconst (e_dx DX5_nearestOn_0 38 rfl) ⟨by decide, by decide⟩,
  f_g19 (e_dx DX5_nearestOn_0 39 rfl) rfl,
  trivial,
  f_iconst (e_dx DX5_nearestOn_1 0 rfl) ⟨by decide, by decide⟩,
  trivial,
  f_istore (e_dx DX5_nearestOn_1 1 rfl) (by decide),
  f_iload (e_dx DX5_nearestOn_1 2 rfl),
  f_if_ne (e_dx DX5_nearestOn_1 3 rfl) rfl,
  f_iload (e_dx DX5_nearestOn_1 4 rfl),
  f_if_lt (e_dx DX5_nearestOn_1 5 rfl) rfl,
  f_iload (e_dx DX5_nearestOn_1 6 rfl),
  f_iload (e_dx DX5_nearestOn_1 7 rfl),
  f_icmp_ge (e_dx DX5_nearestOn_1 8 rfl) rfl,
  trivial,
  f_iload_n (n := 1) (e_dx DX5_nearestOn_1 9 rfl) rfl,
  f_iload_n (n := 2) (e_dx DX5_nearestOn_1 10 rfl) rfl,
  f_iload_n (n := 3) (e_dx DX5_nearestOn_1 11 rfl) rfl,
  f_iload (e_dx DX5_nearestOn_1 12 rfl),
  f_iload (e_dx DX5_nearestOn_1 13 rfl),
  f_iload (e_dx DX5_nearestOn_1 14 rfl),
  x_callSN (e_dx DX5_nearestOn_1 15 rfl) mwX11_isOn cX5_98 swX11_isOn rfl,
  f_if_eq (e_dx DX5_nearestOn_1 16 rfl) rfl,
  f_iload (e_dx DX5_nearestOn_1 17 rfl),
  f_istore (e_dx DX5_nearestOn_1 18 rfl) (by decide),
  f_iload (e_dx DX5_nearestOn_1 19 rfl),
  f_istore (e_dx DX5_nearestOn_1 20 rfl) (by decide),
  trivial,
  f_g8 (e_dx DX5_nearestOn_1 21 rfl) ⟨by decide, by decide⟩,
  f_g19 (e_dx DX5_nearestOn_1 22 rfl) rfl,
  f_iload (e_dx DX5_nearestOn_1 23 rfl),
  ⟨(e_dx DX5_nearestOn_1 24 rfl), rfl⟩, trivial⟩
def lX5_nearestOn (c_X11_isOn : Int → Int → Int → Int → Int → Int → e_M → (Int → Prop) → Prop) : List (Nat × f_Wt) := [(0, f_wm [(1, 0, 0), (1, 0, 0), (1, 0, 0), (1, 0, 0), (1, 0, 0), (1, 0, 0)] (fun ar M R => c_X11_isOn (f_vi (f_nth ar 0)) (f_vi (f_nth ar 1)) (f_vi (f_nth ar 2)) (f_vi (f_nth ar 3)) (f_vi (f_nth ar 4)) (f_vi (f_nth ar 5)) M (fun r => R (some (.inl r)) M)))]
set_option maxRecDepth 20000 in
theorem BX5_nearestOn_9 {sh : Nat → Nat × Nat} {t : Nat} {rm : Nat × Nat × Nat} {cs : Nat × Nat} {R : f_Rt} {c_X11_isOn : Int → Int → Int → Int → Int → Int → e_M → (Int → Prop) → Prop} {k71 : Nat → Int → Int → Int → Int → Int → Int → Int → Int → Int → Int → Prop} {k75 : Nat → Int → Int → Int → Int → Int → Int → Int → Int → Int → Int → Prop} {a0 : Nat} {x1 : Int} {x2 : Int} {x3 : Int} {x4 : Int} {x5 : Int} {x6 : Int} {x7 : Int} {M : e_M} (C : f_Hy sh t yX5_nearestOn rm cs 5 (lX5_nearestOn c_X11_isOn) R) (h71 : ∀ (a0 : Nat) (x1 : Int) (x2 : Int) (x3 : Int) (x4 : Int) (x5 : Int) (x6 : Int) (x7 : Int) (x8 : Int) (x9 : Int) (x10 : Int), k71 a0 x1 x2 x3 x4 x5 x6 x7 x8 x9 x10 → f_E sh t YX5_nearestOn rm cs (f_Q sh t R) 71 [.inr (.inr (.inl (3, 3, a0))), .inl x1, .inl x2, .inl x3, .inl x4, .inl x5, .inl x6, .inl x7, .inl x8, .inl x9, .inl x10, .inr (.inr (.inr ()))] [] M) (h75 : ∀ (a0 : Nat) (x1 : Int) (x2 : Int) (x3 : Int) (x4 : Int) (x5 : Int) (x6 : Int) (x7 : Int) (x8 : Int) (x9 : Int) (x10 : Int), k75 a0 x1 x2 x3 x4 x5 x6 x7 x8 x9 x10 → f_E sh t YX5_nearestOn rm cs (f_Q sh t R) 75 [.inr (.inr (.inl (3, 3, a0))), .inl x1, .inl x2, .inl x3, .inl x4, .inl x5, .inl x6, .inl x7, .inl x8, .inl x9, .inl x10, .inr (.inr (.inr ()))] [] M) (h : VX5_nearestOn_9 c_X11_isOn k71 k75 (fun r => R (some (.inl r)) M) a0 x1 x2 x3 x4 x5 x6 x7 M) : f_E sh t YX5_nearestOn rm cs (f_Q sh t R) 9 [.inr (.inr (.inl (3, 3, a0))), .inl x1, .inl x2, .inl x3, .inl x4, .inl x5, .inl x6, .inl x7, .inr (.inr (.inr ())), .inr (.inr (.inr ())), .inr (.inr (.inr ())), .inr (.inr (.inr ()))] [] M := by
  rw [f_kk11 M k71] at h
  rw [f_kk11 M k75] at h
  exact f_go (KC := f_kc [(71, f_pl [(3, 3, 3), (1, 0, 0), (1, 0, 0), (1, 0, 0), (1, 0, 0), (1, 0, 0), (1, 0, 0), (1, 0, 0), (1, 0, 0), (1, 0, 0), (1, 0, 0), (0, 0, 0)] [] (fun ls st M2 => M2 = M ∧ (k71 (f_va (f_nth ls 0)) (f_vi (f_nth ls 1)) (f_vi (f_nth ls 2)) (f_vi (f_nth ls 3)) (f_vi (f_nth ls 4)) (f_vi (f_nth ls 5)) (f_vi (f_nth ls 6)) (f_vi (f_nth ls 7)) (f_vi (f_nth ls 8)) (f_vi (f_nth ls 9)) (f_vi (f_nth ls 10))))), (75, f_pl [(3, 3, 3), (1, 0, 0), (1, 0, 0), (1, 0, 0), (1, 0, 0), (1, 0, 0), (1, 0, 0), (1, 0, 0), (1, 0, 0), (1, 0, 0), (1, 0, 0), (0, 0, 0)] [] (fun ls st M2 => M2 = M ∧ (k75 (f_va (f_nth ls 0)) (f_vi (f_nth ls 1)) (f_vi (f_nth ls 2)) (f_vi (f_nth ls 3)) (f_vi (f_nth ls 4)) (f_vi (f_nth ls 5)) (f_vi (f_nth ls 6)) (f_vi (f_nth ls 7)) (f_vi (f_nth ls 8)) (f_vi (f_nth ls 9)) (f_vi (f_nth ls 10)))))]) C qX5_nearestOnf (f_kc_cons (f_pl_ok rfl (fun ls st M2 ⟨e, hh⟩ => by subst e; exact h71 _ _ _ _ _ _ _ _ _ _ _ hh)) (f_kc_cons (f_pl_ok rfl (fun ls st M2 ⟨e, hh⟩ => by subst e; exact h75 _ _ _ _ _ _ _ _ _ _ _ hh)) f_kc_nil)) 74 7 h
set_option maxRecDepth 20000 in
theorem BX5_nearestOn_71 {sh : Nat → Nat × Nat} {t : Nat} {rm : Nat × Nat × Nat} {cs : Nat × Nat} {R : f_Rt} {c_X11_isOn : Int → Int → Int → Int → Int → Int → e_M → (Int → Prop) → Prop} {k76 : Nat → Int → Int → Int → Int → Int → Int → Int → Int → Int → Int → Int → Prop} {a0 : Nat} {x1 : Int} {x2 : Int} {x3 : Int} {x4 : Int} {x5 : Int} {x6 : Int} {x7 : Int} {x8 : Int} {x9 : Int} {x10 : Int} {M : e_M} (C : f_Hy sh t yX5_nearestOn rm cs 5 (lX5_nearestOn c_X11_isOn) R) (h76 : ∀ (a0 : Nat) (x1 : Int) (x2 : Int) (x3 : Int) (x4 : Int) (x5 : Int) (x6 : Int) (x7 : Int) (x8 : Int) (x9 : Int) (x10 : Int) (xs0 : Int), k76 a0 x1 x2 x3 x4 x5 x6 x7 x8 x9 x10 xs0 → f_E sh t YX5_nearestOn rm cs (f_Q sh t R) 76 [.inr (.inr (.inl (3, 3, a0))), .inl x1, .inl x2, .inl x3, .inl x4, .inl x5, .inl x6, .inl x7, .inl x8, .inl x9, .inl x10, .inr (.inr (.inr ()))] [.inl xs0] M) (h : VX5_nearestOn_71 c_X11_isOn k76 (fun r => R (some (.inl r)) M) a0 x1 x2 x3 x4 x5 x6 x7 x8 x9 x10 M) : f_E sh t YX5_nearestOn rm cs (f_Q sh t R) 71 [.inr (.inr (.inl (3, 3, a0))), .inl x1, .inl x2, .inl x3, .inl x4, .inl x5, .inl x6, .inl x7, .inl x8, .inl x9, .inl x10, .inr (.inr (.inr ()))] [] M := by
  rw [f_kk12 M k76] at h
  exact f_go (KC := f_kc [(76, f_pl [(3, 3, 3), (1, 0, 0), (1, 0, 0), (1, 0, 0), (1, 0, 0), (1, 0, 0), (1, 0, 0), (1, 0, 0), (1, 0, 0), (1, 0, 0), (1, 0, 0), (0, 0, 0)] [(1, 0, 0)] (fun ls st M2 => M2 = M ∧ (k76 (f_va (f_nth ls 0)) (f_vi (f_nth ls 1)) (f_vi (f_nth ls 2)) (f_vi (f_nth ls 3)) (f_vi (f_nth ls 4)) (f_vi (f_nth ls 5)) (f_vi (f_nth ls 6)) (f_vi (f_nth ls 7)) (f_vi (f_nth ls 8)) (f_vi (f_nth ls 9)) (f_vi (f_nth ls 10)) (f_vi (f_nth st 0)))))]) C qX5_nearestOnf (f_kc_cons (f_pl_ok rfl (fun ls st M2 ⟨e, hh⟩ => by subst e; exact h76 _ _ _ _ _ _ _ _ _ _ _ _ hh)) f_kc_nil) 74 41 h
set_option maxRecDepth 20000 in
theorem BX5_nearestOn_75 {sh : Nat → Nat × Nat} {t : Nat} {rm : Nat × Nat × Nat} {cs : Nat × Nat} {R : f_Rt} {c_X11_isOn : Int → Int → Int → Int → Int → Int → e_M → (Int → Prop) → Prop} {k76 : Nat → Int → Int → Int → Int → Int → Int → Int → Int → Int → Int → Int → Prop} {a0 : Nat} {x1 : Int} {x2 : Int} {x3 : Int} {x4 : Int} {x5 : Int} {x6 : Int} {x7 : Int} {x8 : Int} {x9 : Int} {x10 : Int} {M : e_M} (C : f_Hy sh t yX5_nearestOn rm cs 5 (lX5_nearestOn c_X11_isOn) R) (h76 : ∀ (a0 : Nat) (x1 : Int) (x2 : Int) (x3 : Int) (x4 : Int) (x5 : Int) (x6 : Int) (x7 : Int) (x8 : Int) (x9 : Int) (x10 : Int) (xs0 : Int), k76 a0 x1 x2 x3 x4 x5 x6 x7 x8 x9 x10 xs0 → f_E sh t YX5_nearestOn rm cs (f_Q sh t R) 76 [.inr (.inr (.inl (3, 3, a0))), .inl x1, .inl x2, .inl x3, .inl x4, .inl x5, .inl x6, .inl x7, .inl x8, .inl x9, .inl x10, .inr (.inr (.inr ()))] [.inl xs0] M) (h : VX5_nearestOn_75 c_X11_isOn k76 (fun r => R (some (.inl r)) M) a0 x1 x2 x3 x4 x5 x6 x7 x8 x9 x10 M) : f_E sh t YX5_nearestOn rm cs (f_Q sh t R) 75 [.inr (.inr (.inl (3, 3, a0))), .inl x1, .inl x2, .inl x3, .inl x4, .inl x5, .inl x6, .inl x7, .inl x8, .inl x9, .inl x10, .inr (.inr (.inr ()))] [] M := by
  rw [f_kk12 M k76] at h
  exact f_go (KC := f_kc [(76, f_pl [(3, 3, 3), (1, 0, 0), (1, 0, 0), (1, 0, 0), (1, 0, 0), (1, 0, 0), (1, 0, 0), (1, 0, 0), (1, 0, 0), (1, 0, 0), (1, 0, 0), (0, 0, 0)] [(1, 0, 0)] (fun ls st M2 => M2 = M ∧ (k76 (f_va (f_nth ls 0)) (f_vi (f_nth ls 1)) (f_vi (f_nth ls 2)) (f_vi (f_nth ls 3)) (f_vi (f_nth ls 4)) (f_vi (f_nth ls 5)) (f_vi (f_nth ls 6)) (f_vi (f_nth ls 7)) (f_vi (f_nth ls 8)) (f_vi (f_nth ls 9)) (f_vi (f_nth ls 10)) (f_vi (f_nth st 0)))))]) C qX5_nearestOnf (f_kc_cons (f_pl_ok rfl (fun ls st M2 ⟨e, hh⟩ => by subst e; exact h76 _ _ _ _ _ _ _ _ _ _ _ _ hh)) f_kc_nil) 74 44 h
set_option maxRecDepth 20000 in
theorem BX5_nearestOn_76 {sh : Nat → Nat × Nat} {t : Nat} {rm : Nat × Nat × Nat} {cs : Nat × Nat} {R : f_Rt} {c_X11_isOn : Int → Int → Int → Int → Int → Int → e_M → (Int → Prop) → Prop} {k118 : Nat → Int → Int → Int → Int → Int → Int → Int → Prop} {k95 : Nat → Int → Int → Int → Int → Int → Int → Int → Int → Int → Int → Prop} {a0 : Nat} {x1 : Int} {x2 : Int} {x3 : Int} {x4 : Int} {x5 : Int} {x6 : Int} {x7 : Int} {x8 : Int} {x9 : Int} {x10 : Int} {xs0 : Int} {M : e_M} (C : f_Hy sh t yX5_nearestOn rm cs 5 (lX5_nearestOn c_X11_isOn) R) (h118 : ∀ (a0 : Nat) (x1 : Int) (x2 : Int) (x3 : Int) (x4 : Int) (x5 : Int) (x6 : Int) (x7 : Int), k118 a0 x1 x2 x3 x4 x5 x6 x7 → f_E sh t YX5_nearestOn rm cs (f_Q sh t R) 118 [.inr (.inr (.inl (3, 3, a0))), .inl x1, .inl x2, .inl x3, .inl x4, .inl x5, .inl x6, .inl x7, .inr (.inr (.inr ())), .inr (.inr (.inr ())), .inr (.inr (.inr ())), .inr (.inr (.inr ()))] [] M) (h95 : ∀ (a0 : Nat) (x1 : Int) (x2 : Int) (x3 : Int) (x4 : Int) (x5 : Int) (x6 : Int) (x7 : Int) (x8 : Int) (x9 : Int) (x10 : Int), k95 a0 x1 x2 x3 x4 x5 x6 x7 x8 x9 x10 → f_E sh t YX5_nearestOn rm cs (f_Q sh t R) 95 [.inr (.inr (.inl (3, 3, a0))), .inl x1, .inl x2, .inl x3, .inl x4, .inl x5, .inl x6, .inl x7, .inl x8, .inl x9, .inl x10, .inr (.inr (.inr ()))] [] M) (h : VX5_nearestOn_76 c_X11_isOn k118 k95 (fun r => R (some (.inl r)) M) a0 x1 x2 x3 x4 x5 x6 x7 x8 x9 x10 xs0 M) : f_E sh t YX5_nearestOn rm cs (f_Q sh t R) 76 [.inr (.inr (.inl (3, 3, a0))), .inl x1, .inl x2, .inl x3, .inl x4, .inl x5, .inl x6, .inl x7, .inl x8, .inl x9, .inl x10, .inr (.inr (.inr ()))] [.inl xs0] M := by
  rw [f_kk8 M k118] at h
  rw [f_kk11 M k95] at h
  exact f_go (KC := f_kc [(118, f_pl [(3, 3, 3), (1, 0, 0), (1, 0, 0), (1, 0, 0), (1, 0, 0), (1, 0, 0), (1, 0, 0), (1, 0, 0), (0, 0, 0), (0, 0, 0), (0, 0, 0), (0, 0, 0)] [] (fun ls st M2 => M2 = M ∧ (k118 (f_va (f_nth ls 0)) (f_vi (f_nth ls 1)) (f_vi (f_nth ls 2)) (f_vi (f_nth ls 3)) (f_vi (f_nth ls 4)) (f_vi (f_nth ls 5)) (f_vi (f_nth ls 6)) (f_vi (f_nth ls 7))))), (95, f_pl [(3, 3, 3), (1, 0, 0), (1, 0, 0), (1, 0, 0), (1, 0, 0), (1, 0, 0), (1, 0, 0), (1, 0, 0), (1, 0, 0), (1, 0, 0), (1, 0, 0), (0, 0, 0)] [] (fun ls st M2 => M2 = M ∧ (k95 (f_va (f_nth ls 0)) (f_vi (f_nth ls 1)) (f_vi (f_nth ls 2)) (f_vi (f_nth ls 3)) (f_vi (f_nth ls 4)) (f_vi (f_nth ls 5)) (f_vi (f_nth ls 6)) (f_vi (f_nth ls 7)) (f_vi (f_nth ls 8)) (f_vi (f_nth ls 9)) (f_vi (f_nth ls 10)))))]) C qX5_nearestOnf (f_kc_cons (f_pl_ok rfl (fun ls st M2 ⟨e, hh⟩ => by subst e; exact h118 _ _ _ _ _ _ _ _ hh)) (f_kc_cons (f_pl_ok rfl (fun ls st M2 ⟨e, hh⟩ => by subst e; exact h95 _ _ _ _ _ _ _ _ _ _ _ hh)) f_kc_nil)) 74 46 h
set_option maxRecDepth 20000 in
theorem BX5_nearestOn_95 {sh : Nat → Nat × Nat} {t : Nat} {rm : Nat × Nat × Nat} {cs : Nat × Nat} {R : f_Rt} {c_X11_isOn : Int → Int → Int → Int → Int → Int → e_M → (Int → Prop) → Prop} {k118 : Nat → Int → Int → Int → Int → Int → Int → Int → Prop} {a0 : Nat} {x1 : Int} {x2 : Int} {x3 : Int} {x4 : Int} {x5 : Int} {x6 : Int} {x7 : Int} {x8 : Int} {x9 : Int} {x10 : Int} {M : e_M} (C : f_Hy sh t yX5_nearestOn rm cs 5 (lX5_nearestOn c_X11_isOn) R) (h118 : ∀ (a0 : Nat) (x1 : Int) (x2 : Int) (x3 : Int) (x4 : Int) (x5 : Int) (x6 : Int) (x7 : Int), k118 a0 x1 x2 x3 x4 x5 x6 x7 → f_E sh t YX5_nearestOn rm cs (f_Q sh t R) 118 [.inr (.inr (.inl (3, 3, a0))), .inl x1, .inl x2, .inl x3, .inl x4, .inl x5, .inl x6, .inl x7, .inr (.inr (.inr ())), .inr (.inr (.inr ())), .inr (.inr (.inr ())), .inr (.inr (.inr ()))] [] M) (h : VX5_nearestOn_95 c_X11_isOn k118 (fun r => R (some (.inl r)) M) a0 x1 x2 x3 x4 x5 x6 x7 x8 x9 x10 M) : f_E sh t YX5_nearestOn rm cs (f_Q sh t R) 95 [.inr (.inr (.inl (3, 3, a0))), .inl x1, .inl x2, .inl x3, .inl x4, .inl x5, .inl x6, .inl x7, .inl x8, .inl x9, .inl x10, .inr (.inr (.inr ()))] [] M := by
  rw [f_kk8 M k118] at h
  exact f_go (KC := f_kc [(118, f_pl [(3, 3, 3), (1, 0, 0), (1, 0, 0), (1, 0, 0), (1, 0, 0), (1, 0, 0), (1, 0, 0), (1, 0, 0), (0, 0, 0), (0, 0, 0), (0, 0, 0), (0, 0, 0)] [] (fun ls st M2 => M2 = M ∧ (k118 (f_va (f_nth ls 0)) (f_vi (f_nth ls 1)) (f_vi (f_nth ls 2)) (f_vi (f_nth ls 3)) (f_vi (f_nth ls 4)) (f_vi (f_nth ls 5)) (f_vi (f_nth ls 6)) (f_vi (f_nth ls 7)))))]) C qX5_nearestOnf (f_kc_cons (f_pl_ok rfl (fun ls st M2 ⟨e, hh⟩ => by subst e; exact h118 _ _ _ _ _ _ _ _ hh)) f_kc_nil) 74 55 h
set_option maxRecDepth 20000 in
theorem BX5_nearestOn_118 {sh : Nat → Nat × Nat} {t : Nat} {rm : Nat × Nat × Nat} {cs : Nat × Nat} {R : f_Rt} {c_X11_isOn : Int → Int → Int → Int → Int → Int → e_M → (Int → Prop) → Prop} {k9 : Nat → Int → Int → Int → Int → Int → Int → Int → Prop} {a0 : Nat} {x1 : Int} {x2 : Int} {x3 : Int} {x4 : Int} {x5 : Int} {x6 : Int} {x7 : Int} {M : e_M} (C : f_Hy sh t yX5_nearestOn rm cs 5 (lX5_nearestOn c_X11_isOn) R) (h9 : ∀ (a0 : Nat) (x1 : Int) (x2 : Int) (x3 : Int) (x4 : Int) (x5 : Int) (x6 : Int) (x7 : Int), k9 a0 x1 x2 x3 x4 x5 x6 x7 → f_E sh t YX5_nearestOn rm cs (f_Q sh t R) 9 [.inr (.inr (.inl (3, 3, a0))), .inl x1, .inl x2, .inl x3, .inl x4, .inl x5, .inl x6, .inl x7, .inr (.inr (.inr ())), .inr (.inr (.inr ())), .inr (.inr (.inr ())), .inr (.inr (.inr ()))] [] M) (h : VX5_nearestOn_118 c_X11_isOn k9 (fun r => R (some (.inl r)) M) a0 x1 x2 x3 x4 x5 x6 x7 M) : f_E sh t YX5_nearestOn rm cs (f_Q sh t R) 118 [.inr (.inr (.inl (3, 3, a0))), .inl x1, .inl x2, .inl x3, .inl x4, .inl x5, .inl x6, .inl x7, .inr (.inr (.inr ())), .inr (.inr (.inr ())), .inr (.inr (.inr ())), .inr (.inr (.inr ()))] [] M := by
  rw [f_kk8 M k9] at h
  exact f_go (KC := f_kc [(9, f_pl [(3, 3, 3), (1, 0, 0), (1, 0, 0), (1, 0, 0), (1, 0, 0), (1, 0, 0), (1, 0, 0), (1, 0, 0), (0, 0, 0), (0, 0, 0), (0, 0, 0), (0, 0, 0)] [] (fun ls st M2 => M2 = M ∧ (k9 (f_va (f_nth ls 0)) (f_vi (f_nth ls 1)) (f_vi (f_nth ls 2)) (f_vi (f_nth ls 3)) (f_vi (f_nth ls 4)) (f_vi (f_nth ls 5)) (f_vi (f_nth ls 6)) (f_vi (f_nth ls 7)))))]) C qX5_nearestOnf (f_kc_cons (f_pl_ok rfl (fun ls st M2 ⟨e, hh⟩ => by subst e; exact h9 _ _ _ _ _ _ _ _ hh)) f_kc_nil) 74 68 h
set_option maxRecDepth 20000 in
theorem BX5_nearestOn {sh : Nat → Nat × Nat} {t : Nat} {rm : Nat × Nat × Nat} {cs : Nat × Nat} {R : f_Rt} {c_X11_isOn : Int → Int → Int → Int → Int → Int → e_M → (Int → Prop) → Prop} {k9 : Nat → Int → Int → Int → Int → Int → Int → Int → Prop} {a0 : Nat} {x1 : Int} {x2 : Int} {x3 : Int} {x4 : Int} {M : e_M} (C : f_Hy sh t yX5_nearestOn rm cs 5 (lX5_nearestOn c_X11_isOn) R) (h9 : ∀ (a0 : Nat) (x1 : Int) (x2 : Int) (x3 : Int) (x4 : Int) (x5 : Int) (x6 : Int) (x7 : Int), k9 a0 x1 x2 x3 x4 x5 x6 x7 → f_E sh t YX5_nearestOn rm cs (f_Q sh t R) 9 [.inr (.inr (.inl (3, 3, a0))), .inl x1, .inl x2, .inl x3, .inl x4, .inl x5, .inl x6, .inl x7, .inr (.inr (.inr ())), .inr (.inr (.inr ())), .inr (.inr (.inr ())), .inr (.inr (.inr ()))] [] M) (h : VX5_nearestOn c_X11_isOn k9 (fun r => R (some (.inl r)) M) a0 x1 x2 x3 x4 M) : f_E sh t YX5_nearestOn rm cs (f_Q sh t R) 0 [.inr (.inr (.inl (3, 3, a0))), .inl x1, .inl x2, .inl x3, .inl x4, .inr (.inr (.inr ())), .inr (.inr (.inr ())), .inr (.inr (.inr ())), .inr (.inr (.inr ())), .inr (.inr (.inr ())), .inr (.inr (.inr ())), .inr (.inr (.inr ()))] [] M := by
  rw [f_kk8 M k9] at h
  exact f_go (KC := f_kc [(9, f_pl [(3, 3, 3), (1, 0, 0), (1, 0, 0), (1, 0, 0), (1, 0, 0), (1, 0, 0), (1, 0, 0), (1, 0, 0), (0, 0, 0), (0, 0, 0), (0, 0, 0), (0, 0, 0)] [] (fun ls st M2 => M2 = M ∧ (k9 (f_va (f_nth ls 0)) (f_vi (f_nth ls 1)) (f_vi (f_nth ls 2)) (f_vi (f_nth ls 3)) (f_vi (f_nth ls 4)) (f_vi (f_nth ls 5)) (f_vi (f_nth ls 6)) (f_vi (f_nth ls 7)))))]) C qX5_nearestOnf (f_kc_cons (f_pl_ok rfl (fun ls st M2 ⟨e, hh⟩ => by subst e; exact h9 _ _ _ _ _ _ _ _ hh)) f_kc_nil) 74 0 h
def WX5_nearestOn_118 (M : e_M) (H9 : Nat → Int → Int → Int → Int → Int → Int → Int → Prop) (Q : Int → Prop) (a0 : Nat) (x1 : Int) (x2 : Int) (x3 : Int) (x4 : Int) (x5 : Int) (x6 : Int) (x7 : Int) : Prop :=
  VX5_nearestOn_118 WX11_isOn H9 Q a0 x1 x2 x3 x4 x5 x6 x7 M
def WX5_nearestOn_95 (M : e_M) (H9 : Nat → Int → Int → Int → Int → Int → Int → Int → Prop) (Q : Int → Prop) (a0 : Nat) (x1 : Int) (x2 : Int) (x3 : Int) (x4 : Int) (x5 : Int) (x6 : Int) (x7 : Int) (x8 : Int) (x9 : Int) (x10 : Int) : Prop :=
  VX5_nearestOn_95 WX11_isOn (WX5_nearestOn_118 M H9 Q) Q a0 x1 x2 x3 x4 x5 x6 x7 x8 x9 x10 M
def WX5_nearestOn_76 (M : e_M) (H9 : Nat → Int → Int → Int → Int → Int → Int → Int → Prop) (Q : Int → Prop) (a0 : Nat) (x1 : Int) (x2 : Int) (x3 : Int) (x4 : Int) (x5 : Int) (x6 : Int) (x7 : Int) (x8 : Int) (x9 : Int) (x10 : Int) (xs0 : Int) : Prop :=
  VX5_nearestOn_76 WX11_isOn (WX5_nearestOn_118 M H9 Q) (WX5_nearestOn_95 M H9 Q) Q a0 x1 x2 x3 x4 x5 x6 x7 x8 x9 x10 xs0 M
def WX5_nearestOn_75 (M : e_M) (H9 : Nat → Int → Int → Int → Int → Int → Int → Int → Prop) (Q : Int → Prop) (a0 : Nat) (x1 : Int) (x2 : Int) (x3 : Int) (x4 : Int) (x5 : Int) (x6 : Int) (x7 : Int) (x8 : Int) (x9 : Int) (x10 : Int) : Prop :=
  VX5_nearestOn_75 WX11_isOn (WX5_nearestOn_76 M H9 Q) Q a0 x1 x2 x3 x4 x5 x6 x7 x8 x9 x10 M
def WX5_nearestOn_71 (M : e_M) (H9 : Nat → Int → Int → Int → Int → Int → Int → Int → Prop) (Q : Int → Prop) (a0 : Nat) (x1 : Int) (x2 : Int) (x3 : Int) (x4 : Int) (x5 : Int) (x6 : Int) (x7 : Int) (x8 : Int) (x9 : Int) (x10 : Int) : Prop :=
  VX5_nearestOn_71 WX11_isOn (WX5_nearestOn_76 M H9 Q) Q a0 x1 x2 x3 x4 x5 x6 x7 x8 x9 x10 M
def WX5_nearestOn_9 (M : e_M) (Q : Int → Prop) : Nat → Nat → Int → Int → Int → Int → Int → Int → Int → Prop
  | 0, _, _, _, _, _, _, _, _ => False
  | n + 1, a0, x1, x2, x3, x4, x5, x6, x7 =>
    VX5_nearestOn_9 WX11_isOn (WX5_nearestOn_71 M (WX5_nearestOn_9 M Q n) Q) (WX5_nearestOn_75 M (WX5_nearestOn_9 M Q n) Q) Q a0 x1 x2 x3 x4 x5 x6 x7 M
def WX5_nearestOn (a0 : Nat) (x1 : Int) (x2 : Int) (x3 : Int) (x4 : Int) (M : e_M) (Q : Int → Prop) : Prop :=
  VX5_nearestOn WX11_isOn (fun a0 x1 x2 x3 x4 x5 x6 x7 => ∃ j, WX5_nearestOn_9 M Q j a0 x1 x2 x3 x4 x5 x6 x7) Q a0 x1 x2 x3 x4 M
theorem PX5_nearestOn_118 {sh : Nat → Nat × Nat} {t : Nat} {rm : Nat × Nat × Nat} {cs : Nat × Nat} {R : f_Rt} {H9 : Nat → Int → Int → Int → Int → Int → Int → Int → Prop} {a0 : Nat} {x1 : Int} {x2 : Int} {x3 : Int} {x4 : Int} {x5 : Int} {x6 : Int} {x7 : Int} {M : e_M} (C : f_Hy sh t yX5_nearestOn rm cs 5 (lX5_nearestOn WX11_isOn) R) (g9 : ∀ (a0 : Nat) (x1 : Int) (x2 : Int) (x3 : Int) (x4 : Int) (x5 : Int) (x6 : Int) (x7 : Int), H9 a0 x1 x2 x3 x4 x5 x6 x7 → f_E sh t YX5_nearestOn rm cs (f_Q sh t R) 9 [.inr (.inr (.inl (3, 3, a0))), .inl x1, .inl x2, .inl x3, .inl x4, .inl x5, .inl x6, .inl x7, .inr (.inr (.inr ())), .inr (.inr (.inr ())), .inr (.inr (.inr ())), .inr (.inr (.inr ()))] [] M) (h : WX5_nearestOn_118 M H9 (fun r => R (some (.inl r)) M) a0 x1 x2 x3 x4 x5 x6 x7) : f_E sh t YX5_nearestOn rm cs (f_Q sh t R) 118 [.inr (.inr (.inl (3, 3, a0))), .inl x1, .inl x2, .inl x3, .inl x4, .inl x5, .inl x6, .inl x7, .inr (.inr (.inr ())), .inr (.inr (.inr ())), .inr (.inr (.inr ())), .inr (.inr (.inr ()))] [] M :=
  BX5_nearestOn_118 C g9 h
theorem PX5_nearestOn_95 {sh : Nat → Nat × Nat} {t : Nat} {rm : Nat × Nat × Nat} {cs : Nat × Nat} {R : f_Rt} {H9 : Nat → Int → Int → Int → Int → Int → Int → Int → Prop} {a0 : Nat} {x1 : Int} {x2 : Int} {x3 : Int} {x4 : Int} {x5 : Int} {x6 : Int} {x7 : Int} {x8 : Int} {x9 : Int} {x10 : Int} {M : e_M} (C : f_Hy sh t yX5_nearestOn rm cs 5 (lX5_nearestOn WX11_isOn) R) (g9 : ∀ (a0 : Nat) (x1 : Int) (x2 : Int) (x3 : Int) (x4 : Int) (x5 : Int) (x6 : Int) (x7 : Int), H9 a0 x1 x2 x3 x4 x5 x6 x7 → f_E sh t YX5_nearestOn rm cs (f_Q sh t R) 9 [.inr (.inr (.inl (3, 3, a0))), .inl x1, .inl x2, .inl x3, .inl x4, .inl x5, .inl x6, .inl x7, .inr (.inr (.inr ())), .inr (.inr (.inr ())), .inr (.inr (.inr ())), .inr (.inr (.inr ()))] [] M) (h : WX5_nearestOn_95 M H9 (fun r => R (some (.inl r)) M) a0 x1 x2 x3 x4 x5 x6 x7 x8 x9 x10) : f_E sh t YX5_nearestOn rm cs (f_Q sh t R) 95 [.inr (.inr (.inl (3, 3, a0))), .inl x1, .inl x2, .inl x3, .inl x4, .inl x5, .inl x6, .inl x7, .inl x8, .inl x9, .inl x10, .inr (.inr (.inr ()))] [] M :=
  BX5_nearestOn_95 C (fun a0 x1 x2 x3 x4 x5 x6 x7 h => PX5_nearestOn_118 C g9 h) h
theorem PX5_nearestOn_76 {sh : Nat → Nat × Nat} {t : Nat} {rm : Nat × Nat × Nat} {cs : Nat × Nat} {R : f_Rt} {H9 : Nat → Int → Int → Int → Int → Int → Int → Int → Prop} {a0 : Nat} {x1 : Int} {x2 : Int} {x3 : Int} {x4 : Int} {x5 : Int} {x6 : Int} {x7 : Int} {x8 : Int} {x9 : Int} {x10 : Int} {xs0 : Int} {M : e_M} (C : f_Hy sh t yX5_nearestOn rm cs 5 (lX5_nearestOn WX11_isOn) R) (g9 : ∀ (a0 : Nat) (x1 : Int) (x2 : Int) (x3 : Int) (x4 : Int) (x5 : Int) (x6 : Int) (x7 : Int), H9 a0 x1 x2 x3 x4 x5 x6 x7 → f_E sh t YX5_nearestOn rm cs (f_Q sh t R) 9 [.inr (.inr (.inl (3, 3, a0))), .inl x1, .inl x2, .inl x3, .inl x4, .inl x5, .inl x6, .inl x7, .inr (.inr (.inr ())), .inr (.inr (.inr ())), .inr (.inr (.inr ())), .inr (.inr (.inr ()))] [] M) (h : WX5_nearestOn_76 M H9 (fun r => R (some (.inl r)) M) a0 x1 x2 x3 x4 x5 x6 x7 x8 x9 x10 xs0) : f_E sh t YX5_nearestOn rm cs (f_Q sh t R) 76 [.inr (.inr (.inl (3, 3, a0))), .inl x1, .inl x2, .inl x3, .inl x4, .inl x5, .inl x6, .inl x7, .inl x8, .inl x9, .inl x10, .inr (.inr (.inr ()))] [.inl xs0] M :=
  BX5_nearestOn_76 C (fun a0 x1 x2 x3 x4 x5 x6 x7 h => PX5_nearestOn_118 C g9 h) (fun a0 x1 x2 x3 x4 x5 x6 x7 x8 x9 x10 h => PX5_nearestOn_95 C g9 h) h
theorem PX5_nearestOn_75 {sh : Nat → Nat × Nat} {t : Nat} {rm : Nat × Nat × Nat} {cs : Nat × Nat} {R : f_Rt} {H9 : Nat → Int → Int → Int → Int → Int → Int → Int → Prop} {a0 : Nat} {x1 : Int} {x2 : Int} {x3 : Int} {x4 : Int} {x5 : Int} {x6 : Int} {x7 : Int} {x8 : Int} {x9 : Int} {x10 : Int} {M : e_M} (C : f_Hy sh t yX5_nearestOn rm cs 5 (lX5_nearestOn WX11_isOn) R) (g9 : ∀ (a0 : Nat) (x1 : Int) (x2 : Int) (x3 : Int) (x4 : Int) (x5 : Int) (x6 : Int) (x7 : Int), H9 a0 x1 x2 x3 x4 x5 x6 x7 → f_E sh t YX5_nearestOn rm cs (f_Q sh t R) 9 [.inr (.inr (.inl (3, 3, a0))), .inl x1, .inl x2, .inl x3, .inl x4, .inl x5, .inl x6, .inl x7, .inr (.inr (.inr ())), .inr (.inr (.inr ())), .inr (.inr (.inr ())), .inr (.inr (.inr ()))] [] M) (h : WX5_nearestOn_75 M H9 (fun r => R (some (.inl r)) M) a0 x1 x2 x3 x4 x5 x6 x7 x8 x9 x10) : f_E sh t YX5_nearestOn rm cs (f_Q sh t R) 75 [.inr (.inr (.inl (3, 3, a0))), .inl x1, .inl x2, .inl x3, .inl x4, .inl x5, .inl x6, .inl x7, .inl x8, .inl x9, .inl x10, .inr (.inr (.inr ()))] [] M :=
  BX5_nearestOn_75 C (fun a0 x1 x2 x3 x4 x5 x6 x7 x8 x9 x10 xs0 h => PX5_nearestOn_76 C g9 h) h
theorem PX5_nearestOn_71 {sh : Nat → Nat × Nat} {t : Nat} {rm : Nat × Nat × Nat} {cs : Nat × Nat} {R : f_Rt} {H9 : Nat → Int → Int → Int → Int → Int → Int → Int → Prop} {a0 : Nat} {x1 : Int} {x2 : Int} {x3 : Int} {x4 : Int} {x5 : Int} {x6 : Int} {x7 : Int} {x8 : Int} {x9 : Int} {x10 : Int} {M : e_M} (C : f_Hy sh t yX5_nearestOn rm cs 5 (lX5_nearestOn WX11_isOn) R) (g9 : ∀ (a0 : Nat) (x1 : Int) (x2 : Int) (x3 : Int) (x4 : Int) (x5 : Int) (x6 : Int) (x7 : Int), H9 a0 x1 x2 x3 x4 x5 x6 x7 → f_E sh t YX5_nearestOn rm cs (f_Q sh t R) 9 [.inr (.inr (.inl (3, 3, a0))), .inl x1, .inl x2, .inl x3, .inl x4, .inl x5, .inl x6, .inl x7, .inr (.inr (.inr ())), .inr (.inr (.inr ())), .inr (.inr (.inr ())), .inr (.inr (.inr ()))] [] M) (h : WX5_nearestOn_71 M H9 (fun r => R (some (.inl r)) M) a0 x1 x2 x3 x4 x5 x6 x7 x8 x9 x10) : f_E sh t YX5_nearestOn rm cs (f_Q sh t R) 71 [.inr (.inr (.inl (3, 3, a0))), .inl x1, .inl x2, .inl x3, .inl x4, .inl x5, .inl x6, .inl x7, .inl x8, .inl x9, .inl x10, .inr (.inr (.inr ()))] [] M :=
  BX5_nearestOn_71 C (fun a0 x1 x2 x3 x4 x5 x6 x7 x8 x9 x10 xs0 h => PX5_nearestOn_76 C g9 h) h
theorem PX5_nearestOn_9 {sh : Nat → Nat × Nat} {t : Nat} {rm : Nat × Nat × Nat} {cs : Nat × Nat} {R : f_Rt} {M : e_M} (C : f_Hy sh t yX5_nearestOn rm cs 5 (lX5_nearestOn WX11_isOn) R) : ∀ (n : Nat) (a0 : Nat) (x1 : Int) (x2 : Int) (x3 : Int) (x4 : Int) (x5 : Int) (x6 : Int) (x7 : Int), WX5_nearestOn_9 M (fun r => R (some (.inl r)) M) n a0 x1 x2 x3 x4 x5 x6 x7 → f_E sh t YX5_nearestOn rm cs (f_Q sh t R) 9 [.inr (.inr (.inl (3, 3, a0))), .inl x1, .inl x2, .inl x3, .inl x4, .inl x5, .inl x6, .inl x7, .inr (.inr (.inr ())), .inr (.inr (.inr ())), .inr (.inr (.inr ())), .inr (.inr (.inr ()))] [] M := by
  intro n
  induction n with
  | zero => intro a0 x1 x2 x3 x4 x5 x6 x7 h; exact h.elim
  | succ n ih => intro a0 x1 x2 x3 x4 x5 x6 x7 h; exact BX5_nearestOn_9 C (fun a0 x1 x2 x3 x4 x5 x6 x7 x8 x9 x10 h => PX5_nearestOn_71 C ih h) (fun a0 x1 x2 x3 x4 x5 x6 x7 x8 x9 x10 h => PX5_nearestOn_75 C ih h) h
theorem PX5_nearestOn {sh : Nat → Nat × Nat} {t : Nat} {rm : Nat × Nat × Nat} {cs : Nat × Nat} {R : f_Rt} {a0 : Nat} {x1 : Int} {x2 : Int} {x3 : Int} {x4 : Int} {M : e_M} (C : f_Hy sh t yX5_nearestOn rm cs 5 (lX5_nearestOn WX11_isOn) R) (h : WX5_nearestOn a0 x1 x2 x3 x4 M (fun r => R (some (.inl r)) M)) : f_E sh t YX5_nearestOn rm cs (f_Q sh t R) 0 [.inr (.inr (.inl (3, 3, a0))), .inl x1, .inl x2, .inl x3, .inl x4, .inr (.inr (.inr ())), .inr (.inr (.inr ())), .inr (.inr (.inr ())), .inr (.inr (.inr ())), .inr (.inr (.inr ())), .inr (.inr (.inr ())), .inr (.inr (.inr ()))] [] M :=
  BX5_nearestOn C (fun a0 x1 x2 x3 x4 x5 x6 x7 ⟨j, h⟩ => PX5_nearestOn_9 C j _ _ _ _ _ _ _ _ h) h
def wX5_nearestOn : f_Wt := f_wm [(3, 3, 3), (1, 0, 0), (1, 0, 0), (1, 0, 0), (1, 0, 0)] (fun ar M R => WX5_nearestOn (f_va (f_nth ar 0)) (f_vi (f_nth ar 1)) (f_vi (f_nth ar 2)) (f_vi (f_nth ar 3)) (f_vi (f_nth ar 4)) M (fun r => R (some (.inl r)) M))
theorem TX5_nearestOn {sh : Nat → Nat × Nat} {t : Nat} : f_Mt sh t YX5_nearestOn 5 (wX5_nearestOn) :=
  f_Mt_of (k := 7) (Nat.le_of_ble_eq_true rfl) rfl rfl (fun ar M R rm cs h1 h2 h3 hX h => PX5_nearestOn ⟨Nat.le_of_ble_eq_true rfl, h1, h2, h3, ⟨(f_Mt.up (Nat.le_of_ble_eq_true rfl) TX11_isOn), trivial⟩, hX⟩ h)
def VX5_layEdge (Q : e_M → Prop) (x1 : Int) (x2 : Int) (x3 : Int) (x4 : Int) (M : e_M) : Prop :=
  ((160 ≤ (M 4426 11) → (Q M)) ∧ ((M 4426 11) < 160 → ((0 ≤ (M 4426 11) ∧ (M 4426 11) < 160) ∧ (∀ M1 : e_M, M1 = e_up M 4438 ((M 4426 11).toNat) x1 → ((0 ≤ (M1 4426 11) ∧ (M1 4426 11) < 160) ∧ (∀ M2 : e_M, M2 = e_up M1 4439 ((M1 4426 11).toNat) x2 → ((0 ≤ (M2 4426 11) ∧ (M2 4426 11) < 160) ∧ (∀ M3 : e_M, M3 = e_up M2 4440 ((M2 4426 11).toNat) x3 → ((0 ≤ (M3 4426 11) ∧ (M3 4426 11) < 160) ∧ (∀ M4 : e_M, M4 = e_up M3 4441 ((M3 4426 11).toNat) x4 → (((0 ≤ (M4 4426 11) ∧ (M4 4426 11) < 160) ∧ ((0 : Int) = 0 ∨ (0 : Int) = 1)) ∧ (∀ M5 : e_M, M5 = e_up M4 4442 ((M4 4426 11).toNat) 0 → (∀ M6 : e_M, M6 = e_up M5 4426 11 (e_w32 ((M5 4426 11) + 1)) → (Q M6))))))))))))))
def yX5_layEdge (i : Nat) : e_Y := x_get YX5_layEdge [] i
def pX5_layEdgef : List x_I := [(0, 4, 1, 0, 0, 0, []), (1, 25, 5, 11, 0, 0, []), (4, 0, 3, 0, 0, 160, []), (7, 18, 71, 3, 41, 0, []), (10, 4, 1, 0, 0, 0, []), (11, 25, 5, 6, 4, 0, [(0, 20, 160), (0, 1, 12)]), (14, 4, 1, 0, 0, 0, []), (15, 25, 5, 11, 0, 0, []), (18, 2, 1, 1, 0, 0, []), (19, 28, 0, 0, 0, 0, []), (20, 4, 1, 0, 0, 0, []), (21, 25, 5, 7, 4, 0, [(0, 20, 160), (0, 1, 13)]), (24, 4, 1, 0, 0, 0, []), (25, 25, 5, 11, 0, 0, []), (28, 2, 1, 2, 0, 0, []), (29, 28, 0, 0, 0, 0, []), (30, 4, 1, 0, 0, 0, []), (31, 25, 5, 8, 4, 0, [(0, 20, 160), (0, 1, 14)]), (34, 4, 1, 0, 0, 0, []), (35, 25, 5, 11, 0, 0, []), (38, 2, 1, 3, 0, 0, []), (39, 28, 0, 0, 0, 0, []), (40, 4, 1, 0, 0, 0, []), (41, 25, 5, 9, 4, 0, [(0, 20, 160), (0, 1, 15)]), (44, 4, 1, 0, 0, 0, []), (45, 25, 5, 11, 0, 0, []), (48, 2, 2, 4, 0, 0, []), (50, 28, 0, 0, 0, 0, []), (51, 4, 1, 0, 0, 0, []), (52, 25, 5, 10, 4, 0, [(0, 21, 160), (0, 1, 16)]), (55, 4, 1, 0, 0, 0, []), (56, 25, 5, 11, 0, 0, []), (59, 0, 1, 0, 0, 0, []), (60, 29, 0, 0, 0, 0, []), (61, 4, 1, 0, 0, 0, []), (62, 20, 0, 0, 0, 0, []), (63, 25, 5, 11, 0, 0, []), (66, 0, 1, 0, 0, 1, []), (67, 9, 0, 0, 0, 0, []), (68, 26, 5, 11, 0, 0, []), (71, 44, 0, 0, 0, 0, [])]
set_option maxRecDepth 20000 in
theorem qX5_layEdgef : f_all yX5_layEdge YX5_layEdge pX5_layEdgef :=
  ⟨f_aload_n (n := 0) (e_dx DX5_layEdge_0 0 rfl) rfl,
  f_getf (e_dx DX5_layEdge_0 1 rfl) fX5_51 rfl (by decide) (by decide) (by decide),
  f_sipush (e_dx DX5_layEdge_0 2 rfl) ⟨by decide, by decide⟩,
  f_icmp_ge (e_dx DX5_layEdge_0 3 rfl) rfl,
  f_aload_n (n := 0) (e_dx DX5_layEdge_0 4 rfl) rfl,
  f_getA (e_dx DX5_layEdge_0 5 rfl) fX5_35 rfl (by decide) (Nat.le_of_ble_eq_true rfl) rfl (by decide),
  f_aload_n (n := 0) (e_dx DX5_layEdge_0 6 rfl) rfl,
  f_getf (e_dx DX5_layEdge_0 7 rfl) fX5_51 rfl (by decide) (by decide) (by decide),
  f_iload_n (n := 1) (e_dx DX5_layEdge_0 8 rfl) rfl,
  f_iastore (e_dx DX5_layEdge_0 9 rfl),
  f_aload_n (n := 0) (e_dx DX5_layEdge_0 10 rfl) rfl,
  f_getA (e_dx DX5_layEdge_0 11 rfl) fX5_38 rfl (by decide) (Nat.le_of_ble_eq_true rfl) rfl (by decide),
  f_aload_n (n := 0) (e_dx DX5_layEdge_0 12 rfl) rfl,
  f_getf (e_dx DX5_layEdge_0 13 rfl) fX5_51 rfl (by decide) (by decide) (by decide),
  f_iload_n (n := 2) (e_dx DX5_layEdge_0 14 rfl) rfl,
  f_iastore (e_dx DX5_layEdge_0 15 rfl),
  f_aload_n (n := 0) (e_dx DX5_layEdge_0 16 rfl) rfl,
  f_getA (e_dx DX5_layEdge_0 17 rfl) fX5_41 rfl (by decide) (Nat.le_of_ble_eq_true rfl) rfl (by decide),
  f_aload_n (n := 0) (e_dx DX5_layEdge_0 18 rfl) rfl,
  f_getf (e_dx DX5_layEdge_0 19 rfl) fX5_51 rfl (by decide) (by decide) (by decide),
  f_iload_n (n := 3) (e_dx DX5_layEdge_0 20 rfl) rfl,
  f_iastore (e_dx DX5_layEdge_0 21 rfl),
  f_aload_n (n := 0) (e_dx DX5_layEdge_0 22 rfl) rfl,
  f_getA (e_dx DX5_layEdge_0 23 rfl) fX5_44 rfl (by decide) (Nat.le_of_ble_eq_true rfl) rfl (by decide),
  f_aload_n (n := 0) (e_dx DX5_layEdge_0 24 rfl) rfl,
  f_getf (e_dx DX5_layEdge_0 25 rfl) fX5_51 rfl (by decide) (by decide) (by decide),
  f_iload (e_dx DX5_layEdge_0 26 rfl),
  f_iastore (e_dx DX5_layEdge_0 27 rfl),
  f_aload_n (n := 0) (e_dx DX5_layEdge_0 28 rfl) rfl,
  f_getA (e_dx DX5_layEdge_0 29 rfl) fX5_47 rfl (by decide) (Nat.le_of_ble_eq_true rfl) rfl (by decide),
  f_aload_n (n := 0) (e_dx DX5_layEdge_0 30 rfl) rfl,
  f_getf (e_dx DX5_layEdge_0 31 rfl) fX5_51 rfl (by decide) (by decide) (by decide),
  f_iconst (e_dx DX5_layEdge_0 32 rfl) ⟨by decide, by decide⟩,
  f_g29 (e_dx DX5_layEdge_0 33 rfl),
  f_aload_n (n := 0) (e_dx DX5_layEdge_0 34 rfl) rfl,
  f_g20 (e_dx DX5_layEdge_0 35 rfl),
  f_getf (e_dx DX5_layEdge_0 36 rfl) fX5_51 rfl (by decide) (by decide) (by decide),
  f_iconst (e_dx DX5_layEdge_0 37 rfl) ⟨by decide, by decide⟩,
  f_iadd (e_dx DX5_layEdge_0 38 rfl),
  f_putn (e_dx DX5_layEdge_0 39 rfl) fX5_51 (fun q hq => by cases hq; rfl) rfl (Or.inl rfl) (by decide),
  ⟨(e_dx DX5_layEdge_1 0 rfl), rfl⟩, trivial⟩
def lX5_layEdge : List (Nat × f_Wt) := []
set_option maxRecDepth 20000 in
theorem BX5_layEdge {sh : Nat → Nat × Nat} {t : Nat} {rm : Nat × Nat × Nat} {cs : Nat × Nat} {R : f_Rt} {x1 : Int} {x2 : Int} {x3 : Int} {x4 : Int} {M : e_M} (C : f_Hy sh t yX5_layEdge rm cs 4 (lX5_layEdge) R) (h : VX5_layEdge (fun M => R none M) x1 x2 x3 x4 M) : f_E sh t YX5_layEdge rm cs (f_Q sh t R) 0 [.inr (.inr (.inl (5, 12, 4426))), .inl x1, .inl x2, .inl x3, .inl x4] [] M :=
  f_go (KC := f_kc []) C qX5_layEdgef f_kc_nil 43 0 h
def WX5_layEdge (x1 : Int) (x2 : Int) (x3 : Int) (x4 : Int) (M : e_M) (Q : e_M → Prop) : Prop :=
  VX5_layEdge Q x1 x2 x3 x4 M
theorem PX5_layEdge {sh : Nat → Nat × Nat} {t : Nat} {rm : Nat × Nat × Nat} {cs : Nat × Nat} {R : f_Rt} {x1 : Int} {x2 : Int} {x3 : Int} {x4 : Int} {M : e_M} (C : f_Hy sh t yX5_layEdge rm cs 4 (lX5_layEdge) R) (h : WX5_layEdge x1 x2 x3 x4 M (fun M => R none M)) : f_E sh t YX5_layEdge rm cs (f_Q sh t R) 0 [.inr (.inr (.inl (5, 12, 4426))), .inl x1, .inl x2, .inl x3, .inl x4] [] M :=
  BX5_layEdge C h
def wX5_layEdge : f_Wt := f_wm [(4436, 5, 12), (1, 0, 0), (1, 0, 0), (1, 0, 0), (1, 0, 0)] (fun ar M R => WX5_layEdge (f_vi (f_nth ar 1)) (f_vi (f_nth ar 2)) (f_vi (f_nth ar 3)) (f_vi (f_nth ar 4)) M (fun M => R none M))
theorem TX5_layEdge {sh : Nat → Nat × Nat} {t : Nat} : f_Mt sh t YX5_layEdge 4 (wX5_layEdge) :=
  f_Mt_of (k := 0) (Nat.le_of_ble_eq_true rfl) rfl rfl (fun ar M R rm cs h1 h2 h3 hX h => PX5_layEdge ⟨Nat.le_of_ble_eq_true rfl, h1, h2, h3, trivial, hX⟩ h)
def VX5_layEdges_2 (c_X3_next : Nat → Int → e_M → (Int → Prop) → Prop) (c_X5_nearestOn : Nat → Int → Int → Int → Int → e_M → (Int → Prop) → Prop) (c_X5_layEdge : Int → Int → Int → Int → e_M → (e_M → Prop) → Prop) (k36 : Nat → Nat → Int → Int → Int → Int → Int → e_M → Prop) (Q : e_M → Prop) (a1 : Nat) (a2 : Nat) (x3 : Int) (M : e_M) : Prop :=
  (((M a1 2) ≤ x3 → (Q M)) ∧ (x3 < (M a1 2) → (c_X3_next a1 x3 M (fun r1 => ((0 ≤ x3 ∧ x3 < 40) ∧ ((0 ≤ x3 ∧ x3 < 40) ∧ (k36 a1 a2 x3 r1 (M (a1 + 1) (x3.toNat)) (M (a1 + 2) (x3.toNat)) 0 M)))))))
def VX5_layEdges_36 (c_X3_next : Nat → Int → e_M → (Int → Prop) → Prop) (c_X5_nearestOn : Nat → Int → Int → Int → Int → e_M → (Int → Prop) → Prop) (c_X5_layEdge : Int → Int → Int → Int → e_M → (e_M → Prop) → Prop) (k121 : Nat → Nat → Int → Int → Int → Int → e_M → Prop) (k36 : Nat → Nat → Int → Int → Int → Int → Int → e_M → Prop) (Q : e_M → Prop) (a1 : Nat) (a2 : Nat) (x3 : Int) (x4 : Int) (x5 : Int) (x6 : Int) (x7 : Int) (M : e_M) : Prop :=
  ((40 < x7 → (k121 a1 a2 x3 x4 x5 x6 M)) ∧ (x7 ≤ 40 → ((0 ≤ x4 ∧ x4 < 40) ∧ ((0 ≤ x4 ∧ x4 < 40) ∧ (c_X5_nearestOn a2 x5 x6 (M (a1 + 1) (x4.toNat)) (M (a1 + 2) (x4.toNat)) M (fun r1 => ((0 ≤ r1 → ((0 ≤ r1 ∧ r1 < 40) ∧ ((0 ≤ r1 ∧ r1 < 40) ∧ (c_X5_layEdge x5 x6 (M (a2 + 1) (r1.toNat)) (M (a2 + 2) (r1.toNat)) M (fun M2 => ((0 ≤ r1 ∧ r1 < 40) ∧ ((0 ≤ r1 ∧ r1 < 40) ∧ (k36 a1 a2 x3 x4 (M2 (a2 + 1) (r1.toNat)) (M2 (a2 + 2) (r1.toNat)) (e_w32 (x7 + 1)) M2)))))))) ∧ (r1 < 0 → (k121 a1 a2 x3 x4 x5 x6 M)))))))))
def VX5_layEdges_121 (c_X3_next : Nat → Int → e_M → (Int → Prop) → Prop) (c_X5_nearestOn : Nat → Int → Int → Int → Int → e_M → (Int → Prop) → Prop) (c_X5_layEdge : Int → Int → Int → Int → e_M → (e_M → Prop) → Prop) (k2 : Nat → Nat → Int → e_M → Prop) (Q : e_M → Prop) (a1 : Nat) (a2 : Nat) (x3 : Int) (x4 : Int) (x5 : Int) (x6 : Int) (M : e_M) : Prop :=
  ((0 ≤ x4 ∧ x4 < 40) ∧ ((0 ≤ x4 ∧ x4 < 40) ∧ (c_X5_layEdge x5 x6 (M (a1 + 1) (x4.toNat)) (M (a1 + 2) (x4.toNat)) M (fun M1 => (k2 a1 a2 (e_w32 (x3 + 1)) M1)))))
def VX5_layEdges (c_X3_next : Nat → Int → e_M → (Int → Prop) → Prop) (c_X5_nearestOn : Nat → Int → Int → Int → Int → e_M → (Int → Prop) → Prop) (c_X5_layEdge : Int → Int → Int → Int → e_M → (e_M → Prop) → Prop) (k2 : Nat → Nat → Int → e_M → Prop) (Q : e_M → Prop) (a1 : Nat) (a2 : Nat) (M : e_M) : Prop :=
  (k2 a1 a2 0 M)
def yX5_layEdges (i : Nat) : e_Y := x_get YX5_layEdges [YX3_next, YX5_nearestOn, YX5_layEdge] i
def pX5_layEdgesf : List x_I := [(0, 0, 1, 0, 0, 0, []), (1, 5, 1, 3, 0, 0, []), (2, 49, 0, 0, 0, 0, []), (2, 2, 1, 3, 0, 0, []), (3, 4, 1, 1, 0, 0, []), (4, 25, 3, 2, 0, 0, []), (7, 18, 149, 3, 83, 0, []), (10, 4, 1, 1, 0, 0, []), (11, 2, 1, 3, 0, 0, []), (12, 40, 0, 2, 5, 0, []), (15, 5, 2, 4, 0, 0, []), (17, 4, 1, 1, 0, 0, []), (18, 25, 3, 0, 4, 0, [(0, 20, 40), (0, 1, 1)]), (21, 2, 1, 3, 0, 0, []), (22, 27, 0, 0, 0, 0, []), (23, 5, 2, 5, 0, 0, []), (25, 4, 1, 1, 0, 0, []), (26, 25, 3, 1, 4, 0, [(0, 20, 40), (0, 1, 2)]), (29, 2, 1, 3, 0, 0, []), (30, 27, 0, 0, 0, 0, []), (31, 5, 2, 6, 0, 0, []), (33, 0, 1, 0, 0, 0, []), (34, 5, 2, 7, 0, 0, []), (36, 49, 0, 0, 0, 0, []), (36, 2, 2, 7, 0, 0, []), (38, 0, 2, 0, 0, 40, []), (40, 18, 121, 4, 68, 0, []), (43, 4, 1, 2, 0, 0, []), (44, 2, 2, 5, 0, 0, []), (46, 2, 2, 6, 0, 0, []), (48, 4, 1, 1, 0, 0, []), (49, 25, 3, 0, 4, 0, [(0, 20, 40), (0, 1, 1)]), (52, 2, 2, 4, 0, 0, []), (54, 27, 0, 0, 0, 0, []), (55, 4, 1, 1, 0, 0, []), (56, 25, 3, 1, 4, 0, [(0, 20, 40), (0, 1, 2)]), (59, 2, 2, 4, 0, 0, []), (61, 27, 0, 0, 0, 0, []), (62, 40, 1, 5, 0, 0, []), (65, 5, 2, 8, 0, 0, []), (67, 2, 2, 8, 0, 0, []), (69, 17, 75, 3, 44, 0, []), (72, 19, 121, 0, 68, 0, []), (75, 4, 1, 0, 0, 0, []), (76, 2, 2, 5, 0, 0, []), (78, 2, 2, 6, 0, 0, []), (80, 4, 1, 2, 0, 0, []), (81, 25, 3, 0, 4, 0, [(0, 20, 40), (0, 1, 1)]), (84, 2, 2, 8, 0, 0, []), (86, 27, 0, 0, 0, 0, []), (87, 4, 1, 2, 0, 0, []), (88, 25, 3, 1, 4, 0, [(0, 20, 40), (0, 1, 2)]), (91, 2, 2, 8, 0, 0, []), (93, 27, 0, 0, 0, 0, []), (94, 40, 2, 5, 7, 0, []), (97, 4, 1, 2, 0, 0, []), (98, 25, 3, 0, 4, 0, [(0, 20, 40), (0, 1, 1)]), (101, 2, 2, 8, 0, 0, []), (103, 27, 0, 0, 0, 0, []), (104, 5, 2, 5, 0, 0, []), (106, 4, 1, 2, 0, 0, []), (107, 25, 3, 1, 4, 0, [(0, 20, 40), (0, 1, 2)]), (110, 2, 2, 8, 0, 0, []), (112, 27, 0, 0, 0, 0, []), (113, 5, 2, 6, 0, 0, []), (115, 8, 0, 7, 0, 1, []), (118, 19, 36, 0, 24, 0, []), (121, 49, 0, 0, 0, 0, []), (121, 4, 1, 0, 0, 0, []), (122, 2, 2, 5, 0, 0, []), (124, 2, 2, 6, 0, 0, []), (126, 4, 1, 1, 0, 0, []), (127, 25, 3, 0, 4, 0, [(0, 20, 40), (0, 1, 1)]), (130, 2, 2, 4, 0, 0, []), (132, 27, 0, 0, 0, 0, []), (133, 4, 1, 1, 0, 0, []), (134, 25, 3, 1, 4, 0, [(0, 20, 40), (0, 1, 2)]), (137, 2, 2, 4, 0, 0, []), (139, 27, 0, 0, 0, 0, []), (140, 40, 2, 5, 7, 0, []), (143, 8, 0, 3, 0, 1, []), (146, 19, 2, 0, 3, 0, []), (149, 44, 0, 0, 0, 0, [])]
set_option maxRecDepth 20000 in
theorem qX5_layEdgesf : f_all yX5_layEdges YX5_layEdges pX5_layEdgesf :=
  ⟨f_iconst (e_dx DX5_layEdges_0 0 rfl) ⟨by decide, by decide⟩,
  f_istore_n (n := 3) (e_dx DX5_layEdges_0 1 rfl) rfl (by decide),
  trivial,
  f_iload_n (n := 3) (e_dx DX5_layEdges_0 2 rfl) rfl,
  f_aload_n (n := 1) (e_dx DX5_layEdges_0 3 rfl) rfl,
  f_getf (e_dx DX5_layEdges_0 4 rfl) fX5_89 rfl (by decide) (by decide) (by decide),
  f_icmp_ge (e_dx DX5_layEdges_0 5 rfl) rfl,
  f_aload_n (n := 1) (e_dx DX5_layEdges_0 6 rfl) rfl,
  f_iload_n (n := 3) (e_dx DX5_layEdges_0 7 rfl) rfl,
  x_callV (e_dx DX5_layEdges_0 8 rfl) mwX3_next vwX3_next cX5_92 rfl,
  f_istore (e_dx DX5_layEdges_0 9 rfl) (by decide),
  f_aload_n (n := 1) (e_dx DX5_layEdges_0 10 rfl) rfl,
  f_getA (e_dx DX5_layEdges_0 11 rfl) fX5_96 rfl (by decide) (Nat.le_of_ble_eq_true rfl) rfl (by decide),
  f_iload_n (n := 3) (e_dx DX5_layEdges_0 12 rfl) rfl,
  f_iaload (e_dx DX5_layEdges_0 13 rfl),
  f_istore (e_dx DX5_layEdges_0 14 rfl) (by decide),
  f_aload_n (n := 1) (e_dx DX5_layEdges_0 15 rfl) rfl,
  f_getA (e_dx DX5_layEdges_0 16 rfl) fX5_97 rfl (by decide) (Nat.le_of_ble_eq_true rfl) rfl (by decide),
  f_iload_n (n := 3) (e_dx DX5_layEdges_0 17 rfl) rfl,
  f_iaload (e_dx DX5_layEdges_0 18 rfl),
  f_istore (e_dx DX5_layEdges_0 19 rfl) (by decide),
  f_iconst (e_dx DX5_layEdges_0 20 rfl) ⟨by decide, by decide⟩,
  f_istore (e_dx DX5_layEdges_0 21 rfl) (by decide),
  trivial,
  f_iload (e_dx DX5_layEdges_0 22 rfl),
  f_bipush (e_dx DX5_layEdges_0 23 rfl) ⟨by decide, by decide⟩,
  f_icmp_gt (e_dx DX5_layEdges_0 24 rfl) rfl,
  f_aload_n (n := 2) (e_dx DX5_layEdges_0 25 rfl) rfl,
  f_iload (e_dx DX5_layEdges_0 26 rfl),
  f_iload (e_dx DX5_layEdges_0 27 rfl),
  f_aload_n (n := 1) (e_dx DX5_layEdges_0 28 rfl) rfl,
  f_getA (e_dx DX5_layEdges_0 29 rfl) fX5_96 rfl (by decide) (Nat.le_of_ble_eq_true rfl) rfl (by decide),
  f_iload (e_dx DX5_layEdges_0 30 rfl),
  f_iaload (e_dx DX5_layEdges_0 31 rfl),
  f_aload_n (n := 1) (e_dx DX5_layEdges_0 32 rfl) rfl,
  f_getA (e_dx DX5_layEdges_0 33 rfl) fX5_97 rfl (by decide) (Nat.le_of_ble_eq_true rfl) rfl (by decide),
  f_iload (e_dx DX5_layEdges_0 34 rfl),
  f_iaload (e_dx DX5_layEdges_0 35 rfl),
  x_callS (e_dx DX5_layEdges_0 36 rfl) mwX5_nearestOn cX5_135 swX5_nearestOn rfl,
  f_istore (e_dx DX5_layEdges_0 37 rfl) (by decide),
  f_iload (e_dx DX5_layEdges_0 38 rfl),
  f_if_ge (e_dx DX5_layEdges_0 39 rfl) rfl,
  f_g19 (e_dx DX5_layEdges_1 0 rfl) rfl,
  f_aload_n (n := 0) (e_dx DX5_layEdges_1 1 rfl) rfl,
  f_iload (e_dx DX5_layEdges_1 2 rfl),
  f_iload (e_dx DX5_layEdges_1 3 rfl),
  f_aload_n (n := 2) (e_dx DX5_layEdges_1 4 rfl) rfl,
  f_getA (e_dx DX5_layEdges_1 5 rfl) fX5_96 rfl (by decide) (Nat.le_of_ble_eq_true rfl) rfl (by decide),
  f_iload (e_dx DX5_layEdges_1 6 rfl),
  f_iaload (e_dx DX5_layEdges_1 7 rfl),
  f_aload_n (n := 2) (e_dx DX5_layEdges_1 8 rfl) rfl,
  f_getA (e_dx DX5_layEdges_1 9 rfl) fX5_97 rfl (by decide) (Nat.le_of_ble_eq_true rfl) rfl (by decide),
  f_iload (e_dx DX5_layEdges_1 10 rfl),
  f_iaload (e_dx DX5_layEdges_1 11 rfl),
  x_callV (e_dx DX5_layEdges_1 12 rfl) mwX5_layEdge vwX5_layEdge cX5_139 rfl,
  f_aload_n (n := 2) (e_dx DX5_layEdges_1 13 rfl) rfl,
  f_getA (e_dx DX5_layEdges_1 14 rfl) fX5_96 rfl (by decide) (Nat.le_of_ble_eq_true rfl) rfl (by decide),
  f_iload (e_dx DX5_layEdges_1 15 rfl),
  f_iaload (e_dx DX5_layEdges_1 16 rfl),
  f_istore (e_dx DX5_layEdges_1 17 rfl) (by decide),
  f_aload_n (n := 2) (e_dx DX5_layEdges_1 18 rfl) rfl,
  f_getA (e_dx DX5_layEdges_1 19 rfl) fX5_97 rfl (by decide) (Nat.le_of_ble_eq_true rfl) rfl (by decide),
  f_iload (e_dx DX5_layEdges_1 20 rfl),
  f_iaload (e_dx DX5_layEdges_1 21 rfl),
  f_istore (e_dx DX5_layEdges_1 22 rfl) (by decide),
  f_g8 (e_dx DX5_layEdges_1 23 rfl) ⟨by decide, by decide⟩,
  f_g19 (e_dx DX5_layEdges_1 24 rfl) rfl,
  trivial,
  f_aload_n (n := 0) (e_dx DX5_layEdges_1 25 rfl) rfl,
  f_iload (e_dx DX5_layEdges_1 26 rfl),
  f_iload (e_dx DX5_layEdges_1 27 rfl),
  f_aload_n (n := 1) (e_dx DX5_layEdges_1 28 rfl) rfl,
  f_getA (e_dx DX5_layEdges_1 29 rfl) fX5_96 rfl (by decide) (Nat.le_of_ble_eq_true rfl) rfl (by decide),
  f_iload (e_dx DX5_layEdges_1 30 rfl),
  f_iaload (e_dx DX5_layEdges_1 31 rfl),
  f_aload_n (n := 1) (e_dx DX5_layEdges_1 32 rfl) rfl,
  f_getA (e_dx DX5_layEdges_1 33 rfl) fX5_97 rfl (by decide) (Nat.le_of_ble_eq_true rfl) rfl (by decide),
  f_iload (e_dx DX5_layEdges_1 34 rfl),
  f_iaload (e_dx DX5_layEdges_1 35 rfl),
  x_callV (e_dx DX5_layEdges_1 36 rfl) mwX5_layEdge vwX5_layEdge cX5_139 rfl,
  f_g8 (e_dx DX5_layEdges_1 37 rfl) ⟨by decide, by decide⟩,
  f_g19 (e_dx DX5_layEdges_1 38 rfl) rfl,
  ⟨(e_dx DX5_layEdges_1 39 rfl), rfl⟩, trivial⟩
def lX5_layEdges (c_X3_next : Nat → Int → e_M → (Int → Prop) → Prop) (c_X5_nearestOn : Nat → Int → Int → Int → Int → e_M → (Int → Prop) → Prop) (c_X5_layEdge : Int → Int → Int → Int → e_M → (e_M → Prop) → Prop) : List (Nat × f_Wt) := [(0, f_wm [(3, 3, 3), (1, 0, 0)] (fun ar M R => c_X3_next (f_va (f_nth ar 0)) (f_vi (f_nth ar 1)) M (fun r => R (some (.inl r)) M))), (1, f_wm [(3, 3, 3), (1, 0, 0), (1, 0, 0), (1, 0, 0), (1, 0, 0)] (fun ar M R => c_X5_nearestOn (f_va (f_nth ar 0)) (f_vi (f_nth ar 1)) (f_vi (f_nth ar 2)) (f_vi (f_nth ar 3)) (f_vi (f_nth ar 4)) M (fun r => R (some (.inl r)) M))), (2, f_wm [(4436, 5, 12), (1, 0, 0), (1, 0, 0), (1, 0, 0), (1, 0, 0)] (fun ar M R => c_X5_layEdge (f_vi (f_nth ar 1)) (f_vi (f_nth ar 2)) (f_vi (f_nth ar 3)) (f_vi (f_nth ar 4)) M (fun M => R none M)))]
set_option maxRecDepth 20000 in
theorem BX5_layEdges_2 {sh : Nat → Nat × Nat} {t : Nat} {rm : Nat × Nat × Nat} {cs : Nat × Nat} {R : f_Rt} {c_X3_next : Nat → Int → e_M → (Int → Prop) → Prop} {c_X5_nearestOn : Nat → Int → Int → Int → Int → e_M → (Int → Prop) → Prop} {c_X5_layEdge : Int → Int → Int → Int → e_M → (e_M → Prop) → Prop} {k36 : Nat → Nat → Int → Int → Int → Int → Int → e_M → Prop} {a1 : Nat} {a2 : Nat} {x3 : Int} {M : e_M} (C : f_Hy sh t yX5_layEdges rm cs 6 (lX5_layEdges c_X3_next c_X5_nearestOn c_X5_layEdge) R) (h36 : ∀ (a1 : Nat) (a2 : Nat) (x3 : Int) (x4 : Int) (x5 : Int) (x6 : Int) (x7 : Int) (M : e_M), k36 a1 a2 x3 x4 x5 x6 x7 M → f_E sh t YX5_layEdges rm cs (f_Q sh t R) 36 [.inr (.inr (.inl (5, 12, 4426))), .inr (.inr (.inl (3, 3, a1))), .inr (.inr (.inl (3, 3, a2))), .inl x3, .inl x4, .inl x5, .inl x6, .inl x7, .inr (.inr (.inr ()))] [] M) (h : VX5_layEdges_2 c_X3_next c_X5_nearestOn c_X5_layEdge k36 (fun M => R none M) a1 a2 x3 M) : f_E sh t YX5_layEdges rm cs (f_Q sh t R) 2 [.inr (.inr (.inl (5, 12, 4426))), .inr (.inr (.inl (3, 3, a1))), .inr (.inr (.inl (3, 3, a2))), .inl x3, .inr (.inr (.inr ())), .inr (.inr (.inr ())), .inr (.inr (.inr ())), .inr (.inr (.inr ())), .inr (.inr (.inr ()))] [] M :=
  f_go (KC := f_kc [(36, f_pl [(4436, 5, 12), (3, 3, 3), (3, 3, 3), (1, 0, 0), (1, 0, 0), (1, 0, 0), (1, 0, 0), (1, 0, 0), (0, 0, 0)] [] (fun ls st M => k36 (f_va (f_nth ls 1)) (f_va (f_nth ls 2)) (f_vi (f_nth ls 3)) (f_vi (f_nth ls 4)) (f_vi (f_nth ls 5)) (f_vi (f_nth ls 6)) (f_vi (f_nth ls 7)) M))]) C qX5_layEdgesf (f_kc_cons (f_pl_ok rfl (fun ls st M h => h36 _ _ _ _ _ _ _ M h)) f_kc_nil) 85 3 h
set_option maxRecDepth 20000 in
theorem BX5_layEdges_36 {sh : Nat → Nat × Nat} {t : Nat} {rm : Nat × Nat × Nat} {cs : Nat × Nat} {R : f_Rt} {c_X3_next : Nat → Int → e_M → (Int → Prop) → Prop} {c_X5_nearestOn : Nat → Int → Int → Int → Int → e_M → (Int → Prop) → Prop} {c_X5_layEdge : Int → Int → Int → Int → e_M → (e_M → Prop) → Prop} {k121 : Nat → Nat → Int → Int → Int → Int → e_M → Prop} {k36 : Nat → Nat → Int → Int → Int → Int → Int → e_M → Prop} {a1 : Nat} {a2 : Nat} {x3 : Int} {x4 : Int} {x5 : Int} {x6 : Int} {x7 : Int} {M : e_M} (C : f_Hy sh t yX5_layEdges rm cs 6 (lX5_layEdges c_X3_next c_X5_nearestOn c_X5_layEdge) R) (h121 : ∀ (a1 : Nat) (a2 : Nat) (x3 : Int) (x4 : Int) (x5 : Int) (x6 : Int) (M : e_M), k121 a1 a2 x3 x4 x5 x6 M → f_E sh t YX5_layEdges rm cs (f_Q sh t R) 121 [.inr (.inr (.inl (5, 12, 4426))), .inr (.inr (.inl (3, 3, a1))), .inr (.inr (.inl (3, 3, a2))), .inl x3, .inl x4, .inl x5, .inl x6, .inr (.inr (.inr ())), .inr (.inr (.inr ()))] [] M) (h36 : ∀ (a1 : Nat) (a2 : Nat) (x3 : Int) (x4 : Int) (x5 : Int) (x6 : Int) (x7 : Int) (M : e_M), k36 a1 a2 x3 x4 x5 x6 x7 M → f_E sh t YX5_layEdges rm cs (f_Q sh t R) 36 [.inr (.inr (.inl (5, 12, 4426))), .inr (.inr (.inl (3, 3, a1))), .inr (.inr (.inl (3, 3, a2))), .inl x3, .inl x4, .inl x5, .inl x6, .inl x7, .inr (.inr (.inr ()))] [] M) (h : VX5_layEdges_36 c_X3_next c_X5_nearestOn c_X5_layEdge k121 k36 (fun M => R none M) a1 a2 x3 x4 x5 x6 x7 M) : f_E sh t YX5_layEdges rm cs (f_Q sh t R) 36 [.inr (.inr (.inl (5, 12, 4426))), .inr (.inr (.inl (3, 3, a1))), .inr (.inr (.inl (3, 3, a2))), .inl x3, .inl x4, .inl x5, .inl x6, .inl x7, .inr (.inr (.inr ()))] [] M :=
  f_go (KC := f_kc [(121, f_pl [(4436, 5, 12), (3, 3, 3), (3, 3, 3), (1, 0, 0), (1, 0, 0), (1, 0, 0), (1, 0, 0), (0, 0, 0), (0, 0, 0)] [] (fun ls st M => k121 (f_va (f_nth ls 1)) (f_va (f_nth ls 2)) (f_vi (f_nth ls 3)) (f_vi (f_nth ls 4)) (f_vi (f_nth ls 5)) (f_vi (f_nth ls 6)) M)), (36, f_pl [(4436, 5, 12), (3, 3, 3), (3, 3, 3), (1, 0, 0), (1, 0, 0), (1, 0, 0), (1, 0, 0), (1, 0, 0), (0, 0, 0)] [] (fun ls st M => k36 (f_va (f_nth ls 1)) (f_va (f_nth ls 2)) (f_vi (f_nth ls 3)) (f_vi (f_nth ls 4)) (f_vi (f_nth ls 5)) (f_vi (f_nth ls 6)) (f_vi (f_nth ls 7)) M))]) C qX5_layEdgesf (f_kc_cons (f_pl_ok rfl (fun ls st M h => h121 _ _ _ _ _ _ M h)) (f_kc_cons (f_pl_ok rfl (fun ls st M h => h36 _ _ _ _ _ _ _ M h)) f_kc_nil)) 85 24 h
set_option maxRecDepth 20000 in
theorem BX5_layEdges_121 {sh : Nat → Nat × Nat} {t : Nat} {rm : Nat × Nat × Nat} {cs : Nat × Nat} {R : f_Rt} {c_X3_next : Nat → Int → e_M → (Int → Prop) → Prop} {c_X5_nearestOn : Nat → Int → Int → Int → Int → e_M → (Int → Prop) → Prop} {c_X5_layEdge : Int → Int → Int → Int → e_M → (e_M → Prop) → Prop} {k2 : Nat → Nat → Int → e_M → Prop} {a1 : Nat} {a2 : Nat} {x3 : Int} {x4 : Int} {x5 : Int} {x6 : Int} {M : e_M} (C : f_Hy sh t yX5_layEdges rm cs 6 (lX5_layEdges c_X3_next c_X5_nearestOn c_X5_layEdge) R) (h2 : ∀ (a1 : Nat) (a2 : Nat) (x3 : Int) (M : e_M), k2 a1 a2 x3 M → f_E sh t YX5_layEdges rm cs (f_Q sh t R) 2 [.inr (.inr (.inl (5, 12, 4426))), .inr (.inr (.inl (3, 3, a1))), .inr (.inr (.inl (3, 3, a2))), .inl x3, .inr (.inr (.inr ())), .inr (.inr (.inr ())), .inr (.inr (.inr ())), .inr (.inr (.inr ())), .inr (.inr (.inr ()))] [] M) (h : VX5_layEdges_121 c_X3_next c_X5_nearestOn c_X5_layEdge k2 (fun M => R none M) a1 a2 x3 x4 x5 x6 M) : f_E sh t YX5_layEdges rm cs (f_Q sh t R) 121 [.inr (.inr (.inl (5, 12, 4426))), .inr (.inr (.inl (3, 3, a1))), .inr (.inr (.inl (3, 3, a2))), .inl x3, .inl x4, .inl x5, .inl x6, .inr (.inr (.inr ())), .inr (.inr (.inr ()))] [] M :=
  f_go (KC := f_kc [(2, f_pl [(4436, 5, 12), (3, 3, 3), (3, 3, 3), (1, 0, 0), (0, 0, 0), (0, 0, 0), (0, 0, 0), (0, 0, 0), (0, 0, 0)] [] (fun ls st M => k2 (f_va (f_nth ls 1)) (f_va (f_nth ls 2)) (f_vi (f_nth ls 3)) M))]) C qX5_layEdgesf (f_kc_cons (f_pl_ok rfl (fun ls st M h => h2 _ _ _ M h)) f_kc_nil) 85 68 h
set_option maxRecDepth 20000 in
theorem BX5_layEdges {sh : Nat → Nat × Nat} {t : Nat} {rm : Nat × Nat × Nat} {cs : Nat × Nat} {R : f_Rt} {c_X3_next : Nat → Int → e_M → (Int → Prop) → Prop} {c_X5_nearestOn : Nat → Int → Int → Int → Int → e_M → (Int → Prop) → Prop} {c_X5_layEdge : Int → Int → Int → Int → e_M → (e_M → Prop) → Prop} {k2 : Nat → Nat → Int → e_M → Prop} {a1 : Nat} {a2 : Nat} {M : e_M} (C : f_Hy sh t yX5_layEdges rm cs 6 (lX5_layEdges c_X3_next c_X5_nearestOn c_X5_layEdge) R) (h2 : ∀ (a1 : Nat) (a2 : Nat) (x3 : Int) (M : e_M), k2 a1 a2 x3 M → f_E sh t YX5_layEdges rm cs (f_Q sh t R) 2 [.inr (.inr (.inl (5, 12, 4426))), .inr (.inr (.inl (3, 3, a1))), .inr (.inr (.inl (3, 3, a2))), .inl x3, .inr (.inr (.inr ())), .inr (.inr (.inr ())), .inr (.inr (.inr ())), .inr (.inr (.inr ())), .inr (.inr (.inr ()))] [] M) (h : VX5_layEdges c_X3_next c_X5_nearestOn c_X5_layEdge k2 (fun M => R none M) a1 a2 M) : f_E sh t YX5_layEdges rm cs (f_Q sh t R) 0 [.inr (.inr (.inl (5, 12, 4426))), .inr (.inr (.inl (3, 3, a1))), .inr (.inr (.inl (3, 3, a2))), .inr (.inr (.inr ())), .inr (.inr (.inr ())), .inr (.inr (.inr ())), .inr (.inr (.inr ())), .inr (.inr (.inr ())), .inr (.inr (.inr ()))] [] M :=
  f_go (KC := f_kc [(2, f_pl [(4436, 5, 12), (3, 3, 3), (3, 3, 3), (1, 0, 0), (0, 0, 0), (0, 0, 0), (0, 0, 0), (0, 0, 0), (0, 0, 0)] [] (fun ls st M => k2 (f_va (f_nth ls 1)) (f_va (f_nth ls 2)) (f_vi (f_nth ls 3)) M))]) C qX5_layEdgesf (f_kc_cons (f_pl_ok rfl (fun ls st M h => h2 _ _ _ M h)) f_kc_nil) 85 0 h
def WX5_layEdges_121 (H2 : Nat → Nat → Int → e_M → Prop) (Q : e_M → Prop) (a1 : Nat) (a2 : Nat) (x3 : Int) (x4 : Int) (x5 : Int) (x6 : Int) (M : e_M) : Prop :=
  VX5_layEdges_121 WX3_next WX5_nearestOn WX5_layEdge H2 Q a1 a2 x3 x4 x5 x6 M
def WX5_layEdges_36 (H2 : Nat → Nat → Int → e_M → Prop) (Q : e_M → Prop) : Nat → Nat → Nat → Int → Int → Int → Int → Int → e_M → Prop
  | 0, _, _, _, _, _, _, _, _ => False
  | n + 1, a1, a2, x3, x4, x5, x6, x7, M =>
    VX5_layEdges_36 WX3_next WX5_nearestOn WX5_layEdge (WX5_layEdges_121 H2 Q) (WX5_layEdges_36 H2 Q n) Q a1 a2 x3 x4 x5 x6 x7 M
def WX5_layEdges_2 (Q : e_M → Prop) : Nat → Nat → Nat → Int → e_M → Prop
  | 0, _, _, _, _ => False
  | n + 1, a1, a2, x3, M =>
    VX5_layEdges_2 WX3_next WX5_nearestOn WX5_layEdge (fun a1 a2 x3 x4 x5 x6 x7 M => ∃ j, WX5_layEdges_36 (WX5_layEdges_2 Q n) Q j a1 a2 x3 x4 x5 x6 x7 M) Q a1 a2 x3 M
def WX5_layEdges (a1 : Nat) (a2 : Nat) (M : e_M) (Q : e_M → Prop) : Prop :=
  VX5_layEdges WX3_next WX5_nearestOn WX5_layEdge (fun a1 a2 x3 M => ∃ j, WX5_layEdges_2 Q j a1 a2 x3 M) Q a1 a2 M
theorem PX5_layEdges_121 {sh : Nat → Nat × Nat} {t : Nat} {rm : Nat × Nat × Nat} {cs : Nat × Nat} {R : f_Rt} {H2 : Nat → Nat → Int → e_M → Prop} {a1 : Nat} {a2 : Nat} {x3 : Int} {x4 : Int} {x5 : Int} {x6 : Int} {M : e_M} (C : f_Hy sh t yX5_layEdges rm cs 6 (lX5_layEdges WX3_next WX5_nearestOn WX5_layEdge) R) (g2 : ∀ (a1 : Nat) (a2 : Nat) (x3 : Int) (M : e_M), H2 a1 a2 x3 M → f_E sh t YX5_layEdges rm cs (f_Q sh t R) 2 [.inr (.inr (.inl (5, 12, 4426))), .inr (.inr (.inl (3, 3, a1))), .inr (.inr (.inl (3, 3, a2))), .inl x3, .inr (.inr (.inr ())), .inr (.inr (.inr ())), .inr (.inr (.inr ())), .inr (.inr (.inr ())), .inr (.inr (.inr ()))] [] M) (h : WX5_layEdges_121 H2 (fun M => R none M) a1 a2 x3 x4 x5 x6 M) : f_E sh t YX5_layEdges rm cs (f_Q sh t R) 121 [.inr (.inr (.inl (5, 12, 4426))), .inr (.inr (.inl (3, 3, a1))), .inr (.inr (.inl (3, 3, a2))), .inl x3, .inl x4, .inl x5, .inl x6, .inr (.inr (.inr ())), .inr (.inr (.inr ()))] [] M :=
  BX5_layEdges_121 C g2 h
theorem PX5_layEdges_36 {sh : Nat → Nat × Nat} {t : Nat} {rm : Nat × Nat × Nat} {cs : Nat × Nat} {R : f_Rt} {H2 : Nat → Nat → Int → e_M → Prop} (C : f_Hy sh t yX5_layEdges rm cs 6 (lX5_layEdges WX3_next WX5_nearestOn WX5_layEdge) R) (g2 : ∀ (a1 : Nat) (a2 : Nat) (x3 : Int) (M : e_M), H2 a1 a2 x3 M → f_E sh t YX5_layEdges rm cs (f_Q sh t R) 2 [.inr (.inr (.inl (5, 12, 4426))), .inr (.inr (.inl (3, 3, a1))), .inr (.inr (.inl (3, 3, a2))), .inl x3, .inr (.inr (.inr ())), .inr (.inr (.inr ())), .inr (.inr (.inr ())), .inr (.inr (.inr ())), .inr (.inr (.inr ()))] [] M) : ∀ (n : Nat) (a1 : Nat) (a2 : Nat) (x3 : Int) (x4 : Int) (x5 : Int) (x6 : Int) (x7 : Int) (M : e_M), WX5_layEdges_36 H2 (fun M => R none M) n a1 a2 x3 x4 x5 x6 x7 M → f_E sh t YX5_layEdges rm cs (f_Q sh t R) 36 [.inr (.inr (.inl (5, 12, 4426))), .inr (.inr (.inl (3, 3, a1))), .inr (.inr (.inl (3, 3, a2))), .inl x3, .inl x4, .inl x5, .inl x6, .inl x7, .inr (.inr (.inr ()))] [] M := by
  intro n
  induction n with
  | zero => intro a1 a2 x3 x4 x5 x6 x7 M h; exact h.elim
  | succ n ih => intro a1 a2 x3 x4 x5 x6 x7 M h; exact BX5_layEdges_36 C (fun a1 a2 x3 x4 x5 x6 M h => PX5_layEdges_121 C g2 h) ih h
theorem PX5_layEdges_2 {sh : Nat → Nat × Nat} {t : Nat} {rm : Nat × Nat × Nat} {cs : Nat × Nat} {R : f_Rt} (C : f_Hy sh t yX5_layEdges rm cs 6 (lX5_layEdges WX3_next WX5_nearestOn WX5_layEdge) R) : ∀ (n : Nat) (a1 : Nat) (a2 : Nat) (x3 : Int) (M : e_M), WX5_layEdges_2 (fun M => R none M) n a1 a2 x3 M → f_E sh t YX5_layEdges rm cs (f_Q sh t R) 2 [.inr (.inr (.inl (5, 12, 4426))), .inr (.inr (.inl (3, 3, a1))), .inr (.inr (.inl (3, 3, a2))), .inl x3, .inr (.inr (.inr ())), .inr (.inr (.inr ())), .inr (.inr (.inr ())), .inr (.inr (.inr ())), .inr (.inr (.inr ()))] [] M := by
  intro n
  induction n with
  | zero => intro a1 a2 x3 M h; exact h.elim
  | succ n ih => intro a1 a2 x3 M h; exact BX5_layEdges_2 C (fun a1 a2 x3 x4 x5 x6 x7 M ⟨j, h⟩ => PX5_layEdges_36 C ih j _ _ _ _ _ _ _ _ h) h
theorem PX5_layEdges {sh : Nat → Nat × Nat} {t : Nat} {rm : Nat × Nat × Nat} {cs : Nat × Nat} {R : f_Rt} {a1 : Nat} {a2 : Nat} {M : e_M} (C : f_Hy sh t yX5_layEdges rm cs 6 (lX5_layEdges WX3_next WX5_nearestOn WX5_layEdge) R) (h : WX5_layEdges a1 a2 M (fun M => R none M)) : f_E sh t YX5_layEdges rm cs (f_Q sh t R) 0 [.inr (.inr (.inl (5, 12, 4426))), .inr (.inr (.inl (3, 3, a1))), .inr (.inr (.inl (3, 3, a2))), .inr (.inr (.inr ())), .inr (.inr (.inr ())), .inr (.inr (.inr ())), .inr (.inr (.inr ())), .inr (.inr (.inr ())), .inr (.inr (.inr ()))] [] M :=
  BX5_layEdges C (fun a1 a2 x3 M ⟨j, h⟩ => PX5_layEdges_2 C j _ _ _ _ h) h
def wX5_layEdges : f_Wt := f_wm [(4436, 5, 12), (3, 3, 3), (3, 3, 3)] (fun ar M R => WX5_layEdges (f_va (f_nth ar 1)) (f_va (f_nth ar 2)) M (fun M => R none M))
theorem TX5_layEdges {sh : Nat → Nat × Nat} {t : Nat} : f_Mt sh t YX5_layEdges 6 (wX5_layEdges) :=
  f_Mt_of (k := 6) (Nat.le_of_ble_eq_true rfl) rfl rfl (fun ar M R rm cs h1 h2 h3 hX h => PX5_layEdges ⟨Nat.le_of_ble_eq_true rfl, h1, h2, h3, ⟨(f_Mt.up (Nat.le_of_ble_eq_true rfl) TX3_next), (f_Mt.up (Nat.le_of_ble_eq_true rfl) TX5_nearestOn), (f_Mt.up (Nat.le_of_ble_eq_true rfl) TX5_layEdge), trivial⟩, hX⟩ h)
def VX5_dropShared_7 (k15 : Int → Int → Int → Int → e_M → Prop) (Q : Int → e_M → Prop) (x1 : Int) (x2 : Int) (x3 : Int) (M : e_M) : Prop :=
  ((x1 ≤ x3 → (Q x2 M)) ∧ (x3 < x1 → (k15 x1 x2 x3 x1 M)))
def VX5_dropShared_15 (k7 : Int → Int → Int → e_M → Prop) (k106 : Int → Int → Int → Int → e_M → Prop) (Q : Int → e_M → Prop) (x1 : Int) (x2 : Int) (x3 : Int) (x4 : Int) (M : e_M) : Prop :=
  (((M 4426 11) ≤ x4 → (k7 x1 x2 (e_w32 (x3 + 1)) M)) ∧ (x4 < (M 4426 11) → ((0 ≤ x3 ∧ x3 < 160) ∧ ((0 ≤ x4 ∧ x4 < 160) ∧ ((¬ (M 4438 (x3.toNat)) = (M 4440 (x4.toNat)) → (k106 x1 x2 x3 x4 M)) ∧ ((M 4438 (x3.toNat)) = (M 4440 (x4.toNat)) → ((0 ≤ x3 ∧ x3 < 160) ∧ ((0 ≤ x4 ∧ x4 < 160) ∧ ((¬ (M 4439 (x3.toNat)) = (M 4441 (x4.toNat)) → (k106 x1 x2 x3 x4 M)) ∧ ((M 4439 (x3.toNat)) = (M 4441 (x4.toNat)) → ((0 ≤ x3 ∧ x3 < 160) ∧ ((0 ≤ x4 ∧ x4 < 160) ∧ ((¬ (M 4440 (x3.toNat)) = (M 4438 (x4.toNat)) → (k106 x1 x2 x3 x4 M)) ∧ ((M 4440 (x3.toNat)) = (M 4438 (x4.toNat)) → ((0 ≤ x3 ∧ x3 < 160) ∧ ((0 ≤ x4 ∧ x4 < 160) ∧ ((¬ (M 4441 (x3.toNat)) = (M 4439 (x4.toNat)) → (k106 x1 x2 x3 x4 M)) ∧ ((M 4441 (x3.toNat)) = (M 4439 (x4.toNat)) → (((0 ≤ x3 ∧ x3 < 160) ∧ ((1 : Int) = 0 ∨ (1 : Int) = 1)) ∧ (∀ M1 : e_M, M1 = e_up M 4442 (x3.toNat) 1 → (((0 ≤ x4 ∧ x4 < 160) ∧ ((1 : Int) = 0 ∨ (1 : Int) = 1)) ∧ (∀ M2 : e_M, M2 = e_up M1 4442 (x4.toNat) 1 → (k106 x1 (e_w32 (x2 + (-2))) x3 x4 M2)))))))))))))))))))))))
def VX5_dropShared_106 (k15 : Int → Int → Int → Int → e_M → Prop) (Q : Int → e_M → Prop) (x1 : Int) (x2 : Int) (x3 : Int) (x4 : Int) (M : e_M) : Prop :=
  (k15 x1 x2 x3 (e_w32 (x4 + 1)) M)
def VX5_dropShared (k7 : Int → Int → Int → e_M → Prop) (Q : Int → e_M → Prop) (x1 : Int) (M : e_M) : Prop :=
  (k7 x1 (M 4426 11) 0 M)
def yX5_dropShared (i : Nat) : e_Y := x_get YX5_dropShared [] i
def pX5_dropSharedf : List x_I := [(0, 4, 1, 0, 0, 0, []), (1, 25, 5, 11, 0, 0, []), (4, 5, 1, 2, 0, 0, []), (5, 0, 1, 0, 0, 0, []), (6, 5, 1, 3, 0, 0, []), (7, 49, 0, 0, 0, 0, []), (7, 2, 1, 3, 0, 0, []), (8, 2, 1, 1, 0, 0, []), (9, 18, 118, 3, 69, 0, []), (12, 2, 1, 1, 0, 0, []), (13, 5, 2, 4, 0, 0, []), (15, 49, 0, 0, 0, 0, []), (15, 2, 2, 4, 0, 0, []), (17, 4, 1, 0, 0, 0, []), (18, 25, 5, 11, 0, 0, []), (21, 18, 112, 3, 67, 0, []), (24, 4, 1, 0, 0, 0, []), (25, 25, 5, 6, 4, 0, [(0, 20, 160), (0, 1, 12)]), (28, 2, 1, 3, 0, 0, []), (29, 27, 0, 0, 0, 0, []), (30, 4, 1, 0, 0, 0, []), (31, 25, 5, 8, 4, 0, [(0, 20, 160), (0, 1, 14)]), (34, 2, 2, 4, 0, 0, []), (36, 27, 0, 0, 0, 0, []), (37, 18, 106, 1, 64, 0, []), (40, 4, 1, 0, 0, 0, []), (41, 25, 5, 7, 4, 0, [(0, 20, 160), (0, 1, 13)]), (44, 2, 1, 3, 0, 0, []), (45, 27, 0, 0, 0, 0, []), (46, 4, 1, 0, 0, 0, []), (47, 25, 5, 9, 4, 0, [(0, 20, 160), (0, 1, 15)]), (50, 2, 2, 4, 0, 0, []), (52, 27, 0, 0, 0, 0, []), (53, 18, 106, 1, 64, 0, []), (56, 4, 1, 0, 0, 0, []), (57, 25, 5, 8, 4, 0, [(0, 20, 160), (0, 1, 14)]), (60, 2, 1, 3, 0, 0, []), (61, 27, 0, 0, 0, 0, []), (62, 4, 1, 0, 0, 0, []), (63, 25, 5, 6, 4, 0, [(0, 20, 160), (0, 1, 12)]), (66, 2, 2, 4, 0, 0, []), (68, 27, 0, 0, 0, 0, []), (69, 18, 106, 1, 64, 0, []), (72, 4, 1, 0, 0, 0, []), (73, 25, 5, 9, 4, 0, [(0, 20, 160), (0, 1, 15)]), (76, 2, 1, 3, 0, 0, []), (77, 27, 0, 0, 0, 0, []), (78, 4, 1, 0, 0, 0, []), (79, 25, 5, 7, 4, 0, [(0, 20, 160), (0, 1, 13)]), (82, 2, 2, 4, 0, 0, []), (84, 27, 0, 0, 0, 0, []), (85, 18, 106, 1, 64, 0, []), (88, 4, 1, 0, 0, 0, []), (89, 25, 5, 10, 4, 0, [(0, 21, 160), (0, 1, 16)]), (92, 2, 1, 3, 0, 0, []), (93, 0, 1, 0, 0, 1, []), (94, 29, 0, 0, 0, 0, []), (95, 4, 1, 0, 0, 0, []), (96, 25, 5, 10, 4, 0, [(0, 21, 160), (0, 1, 16)]), (99, 2, 2, 4, 0, 0, []), (101, 0, 1, 0, 0, 1, []), (102, 29, 0, 0, 0, 0, []), (103, 8, 0, 2, 0, (-2), []), (106, 49, 0, 0, 0, 0, []), (106, 8, 0, 4, 0, 1, []), (109, 19, 15, 0, 12, 0, []), (112, 8, 0, 3, 0, 1, []), (115, 19, 7, 0, 6, 0, []), (118, 2, 1, 2, 0, 0, []), (119, 41, 0, 0, 0, 0, [])]
set_option maxRecDepth 20000 in
theorem qX5_dropSharedf : f_all yX5_dropShared YX5_dropShared pX5_dropSharedf :=
  ⟨f_aload_n (n := 0) (e_dx DX5_dropShared_0 0 rfl) rfl,
  f_getf (e_dx DX5_dropShared_0 1 rfl) fX5_51 rfl (by decide) (by decide) (by decide),
  f_istore_n (n := 2) (e_dx DX5_dropShared_0 2 rfl) rfl (by decide),
  f_iconst (e_dx DX5_dropShared_0 3 rfl) ⟨by decide, by decide⟩,
  f_istore_n (n := 3) (e_dx DX5_dropShared_0 4 rfl) rfl (by decide),
  trivial,
  f_iload_n (n := 3) (e_dx DX5_dropShared_0 5 rfl) rfl,
  f_iload_n (n := 1) (e_dx DX5_dropShared_0 6 rfl) rfl,
  f_icmp_ge (e_dx DX5_dropShared_0 7 rfl) rfl,
  f_iload_n (n := 1) (e_dx DX5_dropShared_0 8 rfl) rfl,
  f_istore (e_dx DX5_dropShared_0 9 rfl) (by decide),
  trivial,
  f_iload (e_dx DX5_dropShared_0 10 rfl),
  f_aload_n (n := 0) (e_dx DX5_dropShared_0 11 rfl) rfl,
  f_getf (e_dx DX5_dropShared_0 12 rfl) fX5_51 rfl (by decide) (by decide) (by decide),
  f_icmp_ge (e_dx DX5_dropShared_0 13 rfl) rfl,
  f_aload_n (n := 0) (e_dx DX5_dropShared_0 14 rfl) rfl,
  f_getA (e_dx DX5_dropShared_0 15 rfl) fX5_35 rfl (by decide) (Nat.le_of_ble_eq_true rfl) rfl (by decide),
  f_iload_n (n := 3) (e_dx DX5_dropShared_0 16 rfl) rfl,
  f_iaload (e_dx DX5_dropShared_0 17 rfl),
  f_aload_n (n := 0) (e_dx DX5_dropShared_0 18 rfl) rfl,
  f_getA (e_dx DX5_dropShared_0 19 rfl) fX5_41 rfl (by decide) (Nat.le_of_ble_eq_true rfl) rfl (by decide),
  f_iload (e_dx DX5_dropShared_0 20 rfl),
  f_iaload (e_dx DX5_dropShared_0 21 rfl),
  f_icmp_ne (e_dx DX5_dropShared_0 22 rfl) rfl,
  f_aload_n (n := 0) (e_dx DX5_dropShared_0 23 rfl) rfl,
  f_getA (e_dx DX5_dropShared_0 24 rfl) fX5_38 rfl (by decide) (Nat.le_of_ble_eq_true rfl) rfl (by decide),
  f_iload_n (n := 3) (e_dx DX5_dropShared_0 25 rfl) rfl,
  f_iaload (e_dx DX5_dropShared_0 26 rfl),
  f_aload_n (n := 0) (e_dx DX5_dropShared_0 27 rfl) rfl,
  f_getA (e_dx DX5_dropShared_0 28 rfl) fX5_44 rfl (by decide) (Nat.le_of_ble_eq_true rfl) rfl (by decide),
  f_iload (e_dx DX5_dropShared_0 29 rfl),
  f_iaload (e_dx DX5_dropShared_0 30 rfl),
  f_icmp_ne (e_dx DX5_dropShared_0 31 rfl) rfl,
  f_aload_n (n := 0) (e_dx DX5_dropShared_0 32 rfl) rfl,
  f_getA (e_dx DX5_dropShared_0 33 rfl) fX5_41 rfl (by decide) (Nat.le_of_ble_eq_true rfl) rfl (by decide),
  f_iload_n (n := 3) (e_dx DX5_dropShared_0 34 rfl) rfl,
  f_iaload (e_dx DX5_dropShared_0 35 rfl),
  f_aload_n (n := 0) (e_dx DX5_dropShared_0 36 rfl) rfl,
  f_getA (e_dx DX5_dropShared_0 37 rfl) fX5_35 rfl (by decide) (Nat.le_of_ble_eq_true rfl) rfl (by decide),
  f_iload (e_dx DX5_dropShared_0 38 rfl),
  f_iaload (e_dx DX5_dropShared_0 39 rfl),
  f_icmp_ne (e_dx DX5_dropShared_1 0 rfl) rfl,
  f_aload_n (n := 0) (e_dx DX5_dropShared_1 1 rfl) rfl,
  f_getA (e_dx DX5_dropShared_1 2 rfl) fX5_44 rfl (by decide) (Nat.le_of_ble_eq_true rfl) rfl (by decide),
  f_iload_n (n := 3) (e_dx DX5_dropShared_1 3 rfl) rfl,
  f_iaload (e_dx DX5_dropShared_1 4 rfl),
  f_aload_n (n := 0) (e_dx DX5_dropShared_1 5 rfl) rfl,
  f_getA (e_dx DX5_dropShared_1 6 rfl) fX5_38 rfl (by decide) (Nat.le_of_ble_eq_true rfl) rfl (by decide),
  f_iload (e_dx DX5_dropShared_1 7 rfl),
  f_iaload (e_dx DX5_dropShared_1 8 rfl),
  f_icmp_ne (e_dx DX5_dropShared_1 9 rfl) rfl,
  f_aload_n (n := 0) (e_dx DX5_dropShared_1 10 rfl) rfl,
  f_getA (e_dx DX5_dropShared_1 11 rfl) fX5_47 rfl (by decide) (Nat.le_of_ble_eq_true rfl) rfl (by decide),
  f_iload_n (n := 3) (e_dx DX5_dropShared_1 12 rfl) rfl,
  f_iconst (e_dx DX5_dropShared_1 13 rfl) ⟨by decide, by decide⟩,
  f_g29 (e_dx DX5_dropShared_1 14 rfl),
  f_aload_n (n := 0) (e_dx DX5_dropShared_1 15 rfl) rfl,
  f_getA (e_dx DX5_dropShared_1 16 rfl) fX5_47 rfl (by decide) (Nat.le_of_ble_eq_true rfl) rfl (by decide),
  f_iload (e_dx DX5_dropShared_1 17 rfl),
  f_iconst (e_dx DX5_dropShared_1 18 rfl) ⟨by decide, by decide⟩,
  f_g29 (e_dx DX5_dropShared_1 19 rfl),
  f_g8 (e_dx DX5_dropShared_1 20 rfl) ⟨by decide, by decide⟩,
  trivial,
  f_g8 (e_dx DX5_dropShared_1 21 rfl) ⟨by decide, by decide⟩,
  f_g19 (e_dx DX5_dropShared_1 22 rfl) rfl,
  f_g8 (e_dx DX5_dropShared_1 23 rfl) ⟨by decide, by decide⟩,
  f_g19 (e_dx DX5_dropShared_1 24 rfl) rfl,
  f_iload_n (n := 2) (e_dx DX5_dropShared_1 25 rfl) rfl,
  ⟨(e_dx DX5_dropShared_1 26 rfl), rfl⟩, trivial⟩
def lX5_dropShared : List (Nat × f_Wt) := []
set_option maxRecDepth 20000 in
theorem BX5_dropShared_7 {sh : Nat → Nat × Nat} {t : Nat} {rm : Nat × Nat × Nat} {cs : Nat × Nat} {R : f_Rt} {k15 : Int → Int → Int → Int → e_M → Prop} {x1 : Int} {x2 : Int} {x3 : Int} {M : e_M} (C : f_Hy sh t yX5_dropShared rm cs 4 (lX5_dropShared) R) (h15 : ∀ (x1 : Int) (x2 : Int) (x3 : Int) (x4 : Int) (M : e_M), k15 x1 x2 x3 x4 M → f_E sh t YX5_dropShared rm cs (f_Q sh t R) 15 [.inr (.inr (.inl (5, 12, 4426))), .inl x1, .inl x2, .inl x3, .inl x4] [] M) (h : VX5_dropShared_7 k15 (fun r M => R (some (.inl r)) M) x1 x2 x3 M) : f_E sh t YX5_dropShared rm cs (f_Q sh t R) 7 [.inr (.inr (.inl (5, 12, 4426))), .inl x1, .inl x2, .inl x3, .inr (.inr (.inr ()))] [] M :=
  f_go (KC := f_kc [(15, f_pl [(4436, 5, 12), (1, 0, 0), (1, 0, 0), (1, 0, 0), (1, 0, 0)] [] (fun ls st M => k15 (f_vi (f_nth ls 1)) (f_vi (f_nth ls 2)) (f_vi (f_nth ls 3)) (f_vi (f_nth ls 4)) M))]) C qX5_dropSharedf (f_kc_cons (f_pl_ok rfl (fun ls st M h => h15 _ _ _ _ M h)) f_kc_nil) 72 6 h
set_option maxRecDepth 20000 in
theorem BX5_dropShared_15 {sh : Nat → Nat × Nat} {t : Nat} {rm : Nat × Nat × Nat} {cs : Nat × Nat} {R : f_Rt} {k7 : Int → Int → Int → e_M → Prop} {k106 : Int → Int → Int → Int → e_M → Prop} {x1 : Int} {x2 : Int} {x3 : Int} {x4 : Int} {M : e_M} (C : f_Hy sh t yX5_dropShared rm cs 4 (lX5_dropShared) R) (h7 : ∀ (x1 : Int) (x2 : Int) (x3 : Int) (M : e_M), k7 x1 x2 x3 M → f_E sh t YX5_dropShared rm cs (f_Q sh t R) 7 [.inr (.inr (.inl (5, 12, 4426))), .inl x1, .inl x2, .inl x3, .inr (.inr (.inr ()))] [] M) (h106 : ∀ (x1 : Int) (x2 : Int) (x3 : Int) (x4 : Int) (M : e_M), k106 x1 x2 x3 x4 M → f_E sh t YX5_dropShared rm cs (f_Q sh t R) 106 [.inr (.inr (.inl (5, 12, 4426))), .inl x1, .inl x2, .inl x3, .inl x4] [] M) (h : VX5_dropShared_15 k7 k106 (fun r M => R (some (.inl r)) M) x1 x2 x3 x4 M) : f_E sh t YX5_dropShared rm cs (f_Q sh t R) 15 [.inr (.inr (.inl (5, 12, 4426))), .inl x1, .inl x2, .inl x3, .inl x4] [] M :=
  f_go (KC := f_kc [(7, f_pl [(4436, 5, 12), (1, 0, 0), (1, 0, 0), (1, 0, 0), (0, 0, 0)] [] (fun ls st M => k7 (f_vi (f_nth ls 1)) (f_vi (f_nth ls 2)) (f_vi (f_nth ls 3)) M)), (106, f_pl [(4436, 5, 12), (1, 0, 0), (1, 0, 0), (1, 0, 0), (1, 0, 0)] [] (fun ls st M => k106 (f_vi (f_nth ls 1)) (f_vi (f_nth ls 2)) (f_vi (f_nth ls 3)) (f_vi (f_nth ls 4)) M))]) C qX5_dropSharedf (f_kc_cons (f_pl_ok rfl (fun ls st M h => h7 _ _ _ M h)) (f_kc_cons (f_pl_ok rfl (fun ls st M h => h106 _ _ _ _ M h)) f_kc_nil)) 72 12 h
set_option maxRecDepth 20000 in
theorem BX5_dropShared_106 {sh : Nat → Nat × Nat} {t : Nat} {rm : Nat × Nat × Nat} {cs : Nat × Nat} {R : f_Rt} {k15 : Int → Int → Int → Int → e_M → Prop} {x1 : Int} {x2 : Int} {x3 : Int} {x4 : Int} {M : e_M} (C : f_Hy sh t yX5_dropShared rm cs 4 (lX5_dropShared) R) (h15 : ∀ (x1 : Int) (x2 : Int) (x3 : Int) (x4 : Int) (M : e_M), k15 x1 x2 x3 x4 M → f_E sh t YX5_dropShared rm cs (f_Q sh t R) 15 [.inr (.inr (.inl (5, 12, 4426))), .inl x1, .inl x2, .inl x3, .inl x4] [] M) (h : VX5_dropShared_106 k15 (fun r M => R (some (.inl r)) M) x1 x2 x3 x4 M) : f_E sh t YX5_dropShared rm cs (f_Q sh t R) 106 [.inr (.inr (.inl (5, 12, 4426))), .inl x1, .inl x2, .inl x3, .inl x4] [] M :=
  f_go (KC := f_kc [(15, f_pl [(4436, 5, 12), (1, 0, 0), (1, 0, 0), (1, 0, 0), (1, 0, 0)] [] (fun ls st M => k15 (f_vi (f_nth ls 1)) (f_vi (f_nth ls 2)) (f_vi (f_nth ls 3)) (f_vi (f_nth ls 4)) M))]) C qX5_dropSharedf (f_kc_cons (f_pl_ok rfl (fun ls st M h => h15 _ _ _ _ M h)) f_kc_nil) 72 64 h
set_option maxRecDepth 20000 in
theorem BX5_dropShared {sh : Nat → Nat × Nat} {t : Nat} {rm : Nat × Nat × Nat} {cs : Nat × Nat} {R : f_Rt} {k7 : Int → Int → Int → e_M → Prop} {x1 : Int} {M : e_M} (C : f_Hy sh t yX5_dropShared rm cs 4 (lX5_dropShared) R) (h7 : ∀ (x1 : Int) (x2 : Int) (x3 : Int) (M : e_M), k7 x1 x2 x3 M → f_E sh t YX5_dropShared rm cs (f_Q sh t R) 7 [.inr (.inr (.inl (5, 12, 4426))), .inl x1, .inl x2, .inl x3, .inr (.inr (.inr ()))] [] M) (h : VX5_dropShared k7 (fun r M => R (some (.inl r)) M) x1 M) : f_E sh t YX5_dropShared rm cs (f_Q sh t R) 0 [.inr (.inr (.inl (5, 12, 4426))), .inl x1, .inr (.inr (.inr ())), .inr (.inr (.inr ())), .inr (.inr (.inr ()))] [] M :=
  f_go (KC := f_kc [(7, f_pl [(4436, 5, 12), (1, 0, 0), (1, 0, 0), (1, 0, 0), (0, 0, 0)] [] (fun ls st M => k7 (f_vi (f_nth ls 1)) (f_vi (f_nth ls 2)) (f_vi (f_nth ls 3)) M))]) C qX5_dropSharedf (f_kc_cons (f_pl_ok rfl (fun ls st M h => h7 _ _ _ M h)) f_kc_nil) 72 0 h
def WX5_dropShared_106 (H7 : Int → Int → Int → e_M → Prop) (H15 : Int → Int → Int → Int → e_M → Prop) (Q : Int → e_M → Prop) (x1 : Int) (x2 : Int) (x3 : Int) (x4 : Int) (M : e_M) : Prop :=
  VX5_dropShared_106 H15 Q x1 x2 x3 x4 M
def WX5_dropShared_15 (H7 : Int → Int → Int → e_M → Prop) (Q : Int → e_M → Prop) : Nat → Int → Int → Int → Int → e_M → Prop
  | 0, _, _, _, _, _ => False
  | n + 1, x1, x2, x3, x4, M =>
    VX5_dropShared_15 H7 (WX5_dropShared_106 H7 (WX5_dropShared_15 H7 Q n) Q) Q x1 x2 x3 x4 M
def WX5_dropShared_7 (Q : Int → e_M → Prop) : Nat → Int → Int → Int → e_M → Prop
  | 0, _, _, _, _ => False
  | n + 1, x1, x2, x3, M =>
    VX5_dropShared_7 (fun x1 x2 x3 x4 M => ∃ j, WX5_dropShared_15 (WX5_dropShared_7 Q n) Q j x1 x2 x3 x4 M) Q x1 x2 x3 M
def WX5_dropShared (x1 : Int) (M : e_M) (Q : Int → e_M → Prop) : Prop :=
  VX5_dropShared (fun x1 x2 x3 M => ∃ j, WX5_dropShared_7 Q j x1 x2 x3 M) Q x1 M
theorem PX5_dropShared_106 {sh : Nat → Nat × Nat} {t : Nat} {rm : Nat × Nat × Nat} {cs : Nat × Nat} {R : f_Rt} {H7 : Int → Int → Int → e_M → Prop} {H15 : Int → Int → Int → Int → e_M → Prop} {x1 : Int} {x2 : Int} {x3 : Int} {x4 : Int} {M : e_M} (C : f_Hy sh t yX5_dropShared rm cs 4 (lX5_dropShared) R) (g7 : ∀ (x1 : Int) (x2 : Int) (x3 : Int) (M : e_M), H7 x1 x2 x3 M → f_E sh t YX5_dropShared rm cs (f_Q sh t R) 7 [.inr (.inr (.inl (5, 12, 4426))), .inl x1, .inl x2, .inl x3, .inr (.inr (.inr ()))] [] M) (g15 : ∀ (x1 : Int) (x2 : Int) (x3 : Int) (x4 : Int) (M : e_M), H15 x1 x2 x3 x4 M → f_E sh t YX5_dropShared rm cs (f_Q sh t R) 15 [.inr (.inr (.inl (5, 12, 4426))), .inl x1, .inl x2, .inl x3, .inl x4] [] M) (h : WX5_dropShared_106 H7 H15 (fun r M => R (some (.inl r)) M) x1 x2 x3 x4 M) : f_E sh t YX5_dropShared rm cs (f_Q sh t R) 106 [.inr (.inr (.inl (5, 12, 4426))), .inl x1, .inl x2, .inl x3, .inl x4] [] M :=
  BX5_dropShared_106 C g15 h
theorem PX5_dropShared_15 {sh : Nat → Nat × Nat} {t : Nat} {rm : Nat × Nat × Nat} {cs : Nat × Nat} {R : f_Rt} {H7 : Int → Int → Int → e_M → Prop} (C : f_Hy sh t yX5_dropShared rm cs 4 (lX5_dropShared) R) (g7 : ∀ (x1 : Int) (x2 : Int) (x3 : Int) (M : e_M), H7 x1 x2 x3 M → f_E sh t YX5_dropShared rm cs (f_Q sh t R) 7 [.inr (.inr (.inl (5, 12, 4426))), .inl x1, .inl x2, .inl x3, .inr (.inr (.inr ()))] [] M) : ∀ (n : Nat) (x1 : Int) (x2 : Int) (x3 : Int) (x4 : Int) (M : e_M), WX5_dropShared_15 H7 (fun r M => R (some (.inl r)) M) n x1 x2 x3 x4 M → f_E sh t YX5_dropShared rm cs (f_Q sh t R) 15 [.inr (.inr (.inl (5, 12, 4426))), .inl x1, .inl x2, .inl x3, .inl x4] [] M := by
  intro n
  induction n with
  | zero => intro x1 x2 x3 x4 M h; exact h.elim
  | succ n ih => intro x1 x2 x3 x4 M h; exact BX5_dropShared_15 C g7 (fun x1 x2 x3 x4 M h => PX5_dropShared_106 C g7 ih h) h
theorem PX5_dropShared_7 {sh : Nat → Nat × Nat} {t : Nat} {rm : Nat × Nat × Nat} {cs : Nat × Nat} {R : f_Rt} (C : f_Hy sh t yX5_dropShared rm cs 4 (lX5_dropShared) R) : ∀ (n : Nat) (x1 : Int) (x2 : Int) (x3 : Int) (M : e_M), WX5_dropShared_7 (fun r M => R (some (.inl r)) M) n x1 x2 x3 M → f_E sh t YX5_dropShared rm cs (f_Q sh t R) 7 [.inr (.inr (.inl (5, 12, 4426))), .inl x1, .inl x2, .inl x3, .inr (.inr (.inr ()))] [] M := by
  intro n
  induction n with
  | zero => intro x1 x2 x3 M h; exact h.elim
  | succ n ih => intro x1 x2 x3 M h; exact BX5_dropShared_7 C (fun x1 x2 x3 x4 M ⟨j, h⟩ => PX5_dropShared_15 C ih j _ _ _ _ _ h) h
theorem PX5_dropShared {sh : Nat → Nat × Nat} {t : Nat} {rm : Nat × Nat × Nat} {cs : Nat × Nat} {R : f_Rt} {x1 : Int} {M : e_M} (C : f_Hy sh t yX5_dropShared rm cs 4 (lX5_dropShared) R) (h : WX5_dropShared x1 M (fun r M => R (some (.inl r)) M)) : f_E sh t YX5_dropShared rm cs (f_Q sh t R) 0 [.inr (.inr (.inl (5, 12, 4426))), .inl x1, .inr (.inr (.inr ())), .inr (.inr (.inr ())), .inr (.inr (.inr ()))] [] M :=
  BX5_dropShared C (fun x1 x2 x3 M ⟨j, h⟩ => PX5_dropShared_7 C j _ _ _ _ h) h
def wX5_dropShared : f_Wt := f_wm [(4436, 5, 12), (1, 0, 0)] (fun ar M R => WX5_dropShared (f_vi (f_nth ar 1)) M (fun r M => R (some (.inl r)) M))
theorem TX5_dropShared {sh : Nat → Nat × Nat} {t : Nat} : f_Mt sh t YX5_dropShared 4 (wX5_dropShared) :=
  f_Mt_of (k := 3) (Nat.le_of_ble_eq_true rfl) rfl rfl (fun ar M R rm cs h1 h2 h3 hX h => PX5_dropShared ⟨Nat.le_of_ble_eq_true rfl, h1, h2, h3, trivial, hX⟩ h)
def VX5_onlyEdgeFrom_5 (k55 : Int → Int → Int → Int → Prop) (Q : Int → Prop) (x1 : Int) (x2 : Int) (x3 : Int) (x4 : Int) (M : e_M) : Prop :=
  (((M 4426 11) ≤ x4 → (Q x3)) ∧ (x4 < (M 4426 11) → ((0 ≤ x4 ∧ x4 < 160) ∧ ((¬ (M 4442 (x4.toNat)) = 0 → (k55 x1 x2 x3 x4)) ∧ ((M 4442 (x4.toNat)) = 0 → ((0 ≤ x4 ∧ x4 < 160) ∧ ((¬ (M 4438 (x4.toNat)) = x1 → (k55 x1 x2 x3 x4)) ∧ ((M 4438 (x4.toNat)) = x1 → ((0 ≤ x4 ∧ x4 < 160) ∧ ((¬ (M 4439 (x4.toNat)) = x2 → (k55 x1 x2 x3 x4)) ∧ ((M 4439 (x4.toNat)) = x2 → ((x3 < 0 → (k55 x1 x2 x4 x4)) ∧ (0 ≤ x3 → (Q (-1)))))))))))))))
def VX5_onlyEdgeFrom_55 (k5 : Int → Int → Int → Int → Prop) (Q : Int → Prop) (x1 : Int) (x2 : Int) (x3 : Int) (x4 : Int) (M : e_M) : Prop :=
  (k5 x1 x2 x3 (e_w32 (x4 + 1)))
def VX5_onlyEdgeFrom (k5 : Int → Int → Int → Int → Prop) (Q : Int → Prop) (x1 : Int) (x2 : Int) (M : e_M) : Prop :=
  (k5 x1 x2 (-1) 0)
def yX5_onlyEdgeFrom (i : Nat) : e_Y := x_get YX5_onlyEdgeFrom [] i
def pX5_onlyEdgeFromf : List x_I := [(0, 0, 1, 0, 0, (-1), []), (1, 5, 1, 3, 0, 0, []), (2, 0, 1, 0, 0, 0, []), (3, 5, 2, 4, 0, 0, []), (5, 49, 0, 0, 0, 0, []), (5, 2, 2, 4, 0, 0, []), (7, 4, 1, 0, 0, 0, []), (8, 25, 5, 11, 0, 0, []), (11, 18, 61, 3, 36, 0, []), (14, 4, 1, 0, 0, 0, []), (15, 25, 5, 10, 4, 0, [(0, 21, 160), (0, 1, 16)]), (18, 2, 2, 4, 0, 0, []), (20, 27, 0, 2, 0, 0, []), (21, 17, 55, 1, 33, 0, []), (24, 4, 1, 0, 0, 0, []), (25, 25, 5, 6, 4, 0, [(0, 20, 160), (0, 1, 12)]), (28, 2, 2, 4, 0, 0, []), (30, 27, 0, 0, 0, 0, []), (31, 2, 1, 1, 0, 0, []), (32, 18, 55, 1, 33, 0, []), (35, 4, 1, 0, 0, 0, []), (36, 25, 5, 7, 4, 0, [(0, 20, 160), (0, 1, 13)]), (39, 2, 2, 4, 0, 0, []), (41, 27, 0, 0, 0, 0, []), (42, 2, 1, 2, 0, 0, []), (43, 18, 55, 1, 33, 0, []), (46, 2, 1, 3, 0, 0, []), (47, 17, 52, 2, 31, 0, []), (50, 0, 1, 0, 0, (-1), []), (51, 41, 0, 0, 0, 0, []), (52, 2, 2, 4, 0, 0, []), (54, 5, 1, 3, 0, 0, []), (55, 49, 0, 0, 0, 0, []), (55, 8, 0, 4, 0, 1, []), (58, 19, 5, 0, 5, 0, []), (61, 2, 1, 3, 0, 0, []), (62, 41, 0, 0, 0, 0, [])]
set_option maxRecDepth 20000 in
theorem qX5_onlyEdgeFromf : f_all yX5_onlyEdgeFrom YX5_onlyEdgeFrom pX5_onlyEdgeFromf :=
  ⟨f_iconst (e_dx DX5_onlyEdgeFrom_0 0 rfl) ⟨by decide, by decide⟩,
  f_istore_n (n := 3) (e_dx DX5_onlyEdgeFrom_0 1 rfl) rfl (by decide),
  f_iconst (e_dx DX5_onlyEdgeFrom_0 2 rfl) ⟨by decide, by decide⟩,
  f_istore (e_dx DX5_onlyEdgeFrom_0 3 rfl) (by decide),
  trivial,
  f_iload (e_dx DX5_onlyEdgeFrom_0 4 rfl),
  f_aload_n (n := 0) (e_dx DX5_onlyEdgeFrom_0 5 rfl) rfl,
  f_getf (e_dx DX5_onlyEdgeFrom_0 6 rfl) fX5_51 rfl (by decide) (by decide) (by decide),
  f_icmp_ge (e_dx DX5_onlyEdgeFrom_0 7 rfl) rfl,
  f_aload_n (n := 0) (e_dx DX5_onlyEdgeFrom_0 8 rfl) rfl,
  f_getA (e_dx DX5_onlyEdgeFrom_0 9 rfl) fX5_47 rfl (by decide) (Nat.le_of_ble_eq_true rfl) rfl (by decide),
  f_iload (e_dx DX5_onlyEdgeFrom_0 10 rfl),
  f_baload (e_dx DX5_onlyEdgeFrom_0 11 rfl),
  f_if_ne (e_dx DX5_onlyEdgeFrom_0 12 rfl) rfl,
  f_aload_n (n := 0) (e_dx DX5_onlyEdgeFrom_0 13 rfl) rfl,
  f_getA (e_dx DX5_onlyEdgeFrom_0 14 rfl) fX5_35 rfl (by decide) (Nat.le_of_ble_eq_true rfl) rfl (by decide),
  f_iload (e_dx DX5_onlyEdgeFrom_0 15 rfl),
  f_iaload (e_dx DX5_onlyEdgeFrom_0 16 rfl),
  f_iload_n (n := 1) (e_dx DX5_onlyEdgeFrom_0 17 rfl) rfl,
  f_icmp_ne (e_dx DX5_onlyEdgeFrom_0 18 rfl) rfl,
  f_aload_n (n := 0) (e_dx DX5_onlyEdgeFrom_0 19 rfl) rfl,
  f_getA (e_dx DX5_onlyEdgeFrom_0 20 rfl) fX5_38 rfl (by decide) (Nat.le_of_ble_eq_true rfl) rfl (by decide),
  f_iload (e_dx DX5_onlyEdgeFrom_0 21 rfl),
  f_iaload (e_dx DX5_onlyEdgeFrom_0 22 rfl),
  f_iload_n (n := 2) (e_dx DX5_onlyEdgeFrom_0 23 rfl) rfl,
  f_icmp_ne (e_dx DX5_onlyEdgeFrom_0 24 rfl) rfl,
  f_iload_n (n := 3) (e_dx DX5_onlyEdgeFrom_0 25 rfl) rfl,
  f_if_lt (e_dx DX5_onlyEdgeFrom_0 26 rfl) rfl,
  f_iconst (e_dx DX5_onlyEdgeFrom_0 27 rfl) ⟨by decide, by decide⟩,
  ⟨(e_dx DX5_onlyEdgeFrom_0 28 rfl), rfl⟩,
  f_iload (e_dx DX5_onlyEdgeFrom_0 29 rfl),
  f_istore_n (n := 3) (e_dx DX5_onlyEdgeFrom_0 30 rfl) rfl (by decide),
  trivial,
  f_g8 (e_dx DX5_onlyEdgeFrom_0 31 rfl) ⟨by decide, by decide⟩,
  f_g19 (e_dx DX5_onlyEdgeFrom_0 32 rfl) rfl,
  f_iload_n (n := 3) (e_dx DX5_onlyEdgeFrom_0 33 rfl) rfl,
  ⟨(e_dx DX5_onlyEdgeFrom_0 34 rfl), rfl⟩, trivial⟩
def lX5_onlyEdgeFrom : List (Nat × f_Wt) := []
set_option maxRecDepth 20000 in
theorem BX5_onlyEdgeFrom_5 {sh : Nat → Nat × Nat} {t : Nat} {rm : Nat × Nat × Nat} {cs : Nat × Nat} {R : f_Rt} {k55 : Int → Int → Int → Int → Prop} {x1 : Int} {x2 : Int} {x3 : Int} {x4 : Int} {M : e_M} (C : f_Hy sh t yX5_onlyEdgeFrom rm cs 4 (lX5_onlyEdgeFrom) R) (h55 : ∀ (x1 : Int) (x2 : Int) (x3 : Int) (x4 : Int), k55 x1 x2 x3 x4 → f_E sh t YX5_onlyEdgeFrom rm cs (f_Q sh t R) 55 [.inr (.inr (.inl (5, 12, 4426))), .inl x1, .inl x2, .inl x3, .inl x4] [] M) (h : VX5_onlyEdgeFrom_5 k55 (fun r => R (some (.inl r)) M) x1 x2 x3 x4 M) : f_E sh t YX5_onlyEdgeFrom rm cs (f_Q sh t R) 5 [.inr (.inr (.inl (5, 12, 4426))), .inl x1, .inl x2, .inl x3, .inl x4] [] M := by
  rw [f_kk4 M k55] at h
  exact f_go (KC := f_kc [(55, f_pl [(4436, 5, 12), (1, 0, 0), (1, 0, 0), (1, 0, 0), (1, 0, 0)] [] (fun ls st M2 => M2 = M ∧ (k55 (f_vi (f_nth ls 1)) (f_vi (f_nth ls 2)) (f_vi (f_nth ls 3)) (f_vi (f_nth ls 4)))))]) C qX5_onlyEdgeFromf (f_kc_cons (f_pl_ok rfl (fun ls st M2 ⟨e, hh⟩ => by subst e; exact h55 _ _ _ _ hh)) f_kc_nil) 39 5 h
set_option maxRecDepth 20000 in
theorem BX5_onlyEdgeFrom_55 {sh : Nat → Nat × Nat} {t : Nat} {rm : Nat × Nat × Nat} {cs : Nat × Nat} {R : f_Rt} {k5 : Int → Int → Int → Int → Prop} {x1 : Int} {x2 : Int} {x3 : Int} {x4 : Int} {M : e_M} (C : f_Hy sh t yX5_onlyEdgeFrom rm cs 4 (lX5_onlyEdgeFrom) R) (h5 : ∀ (x1 : Int) (x2 : Int) (x3 : Int) (x4 : Int), k5 x1 x2 x3 x4 → f_E sh t YX5_onlyEdgeFrom rm cs (f_Q sh t R) 5 [.inr (.inr (.inl (5, 12, 4426))), .inl x1, .inl x2, .inl x3, .inl x4] [] M) (h : VX5_onlyEdgeFrom_55 k5 (fun r => R (some (.inl r)) M) x1 x2 x3 x4 M) : f_E sh t YX5_onlyEdgeFrom rm cs (f_Q sh t R) 55 [.inr (.inr (.inl (5, 12, 4426))), .inl x1, .inl x2, .inl x3, .inl x4] [] M := by
  rw [f_kk4 M k5] at h
  exact f_go (KC := f_kc [(5, f_pl [(4436, 5, 12), (1, 0, 0), (1, 0, 0), (1, 0, 0), (1, 0, 0)] [] (fun ls st M2 => M2 = M ∧ (k5 (f_vi (f_nth ls 1)) (f_vi (f_nth ls 2)) (f_vi (f_nth ls 3)) (f_vi (f_nth ls 4)))))]) C qX5_onlyEdgeFromf (f_kc_cons (f_pl_ok rfl (fun ls st M2 ⟨e, hh⟩ => by subst e; exact h5 _ _ _ _ hh)) f_kc_nil) 39 33 h
set_option maxRecDepth 20000 in
theorem BX5_onlyEdgeFrom {sh : Nat → Nat × Nat} {t : Nat} {rm : Nat × Nat × Nat} {cs : Nat × Nat} {R : f_Rt} {k5 : Int → Int → Int → Int → Prop} {x1 : Int} {x2 : Int} {M : e_M} (C : f_Hy sh t yX5_onlyEdgeFrom rm cs 4 (lX5_onlyEdgeFrom) R) (h5 : ∀ (x1 : Int) (x2 : Int) (x3 : Int) (x4 : Int), k5 x1 x2 x3 x4 → f_E sh t YX5_onlyEdgeFrom rm cs (f_Q sh t R) 5 [.inr (.inr (.inl (5, 12, 4426))), .inl x1, .inl x2, .inl x3, .inl x4] [] M) (h : VX5_onlyEdgeFrom k5 (fun r => R (some (.inl r)) M) x1 x2 M) : f_E sh t YX5_onlyEdgeFrom rm cs (f_Q sh t R) 0 [.inr (.inr (.inl (5, 12, 4426))), .inl x1, .inl x2, .inr (.inr (.inr ())), .inr (.inr (.inr ()))] [] M := by
  rw [f_kk4 M k5] at h
  exact f_go (KC := f_kc [(5, f_pl [(4436, 5, 12), (1, 0, 0), (1, 0, 0), (1, 0, 0), (1, 0, 0)] [] (fun ls st M2 => M2 = M ∧ (k5 (f_vi (f_nth ls 1)) (f_vi (f_nth ls 2)) (f_vi (f_nth ls 3)) (f_vi (f_nth ls 4)))))]) C qX5_onlyEdgeFromf (f_kc_cons (f_pl_ok rfl (fun ls st M2 ⟨e, hh⟩ => by subst e; exact h5 _ _ _ _ hh)) f_kc_nil) 39 0 h
def WX5_onlyEdgeFrom_55 (M : e_M) (H5 : Int → Int → Int → Int → Prop) (Q : Int → Prop) (x1 : Int) (x2 : Int) (x3 : Int) (x4 : Int) : Prop :=
  VX5_onlyEdgeFrom_55 H5 Q x1 x2 x3 x4 M
def WX5_onlyEdgeFrom_5 (M : e_M) (Q : Int → Prop) : Nat → Int → Int → Int → Int → Prop
  | 0, _, _, _, _ => False
  | n + 1, x1, x2, x3, x4 =>
    VX5_onlyEdgeFrom_5 (WX5_onlyEdgeFrom_55 M (WX5_onlyEdgeFrom_5 M Q n) Q) Q x1 x2 x3 x4 M
def WX5_onlyEdgeFrom (x1 : Int) (x2 : Int) (M : e_M) (Q : Int → Prop) : Prop :=
  VX5_onlyEdgeFrom (fun x1 x2 x3 x4 => ∃ j, WX5_onlyEdgeFrom_5 M Q j x1 x2 x3 x4) Q x1 x2 M
theorem PX5_onlyEdgeFrom_55 {sh : Nat → Nat × Nat} {t : Nat} {rm : Nat × Nat × Nat} {cs : Nat × Nat} {R : f_Rt} {H5 : Int → Int → Int → Int → Prop} {x1 : Int} {x2 : Int} {x3 : Int} {x4 : Int} {M : e_M} (C : f_Hy sh t yX5_onlyEdgeFrom rm cs 4 (lX5_onlyEdgeFrom) R) (g5 : ∀ (x1 : Int) (x2 : Int) (x3 : Int) (x4 : Int), H5 x1 x2 x3 x4 → f_E sh t YX5_onlyEdgeFrom rm cs (f_Q sh t R) 5 [.inr (.inr (.inl (5, 12, 4426))), .inl x1, .inl x2, .inl x3, .inl x4] [] M) (h : WX5_onlyEdgeFrom_55 M H5 (fun r => R (some (.inl r)) M) x1 x2 x3 x4) : f_E sh t YX5_onlyEdgeFrom rm cs (f_Q sh t R) 55 [.inr (.inr (.inl (5, 12, 4426))), .inl x1, .inl x2, .inl x3, .inl x4] [] M :=
  BX5_onlyEdgeFrom_55 C g5 h
theorem PX5_onlyEdgeFrom_5 {sh : Nat → Nat × Nat} {t : Nat} {rm : Nat × Nat × Nat} {cs : Nat × Nat} {R : f_Rt} {M : e_M} (C : f_Hy sh t yX5_onlyEdgeFrom rm cs 4 (lX5_onlyEdgeFrom) R) : ∀ (n : Nat) (x1 : Int) (x2 : Int) (x3 : Int) (x4 : Int), WX5_onlyEdgeFrom_5 M (fun r => R (some (.inl r)) M) n x1 x2 x3 x4 → f_E sh t YX5_onlyEdgeFrom rm cs (f_Q sh t R) 5 [.inr (.inr (.inl (5, 12, 4426))), .inl x1, .inl x2, .inl x3, .inl x4] [] M := by
  intro n
  induction n with
  | zero => intro x1 x2 x3 x4 h; exact h.elim
  | succ n ih => intro x1 x2 x3 x4 h; exact BX5_onlyEdgeFrom_5 C (fun x1 x2 x3 x4 h => PX5_onlyEdgeFrom_55 C ih h) h
theorem PX5_onlyEdgeFrom {sh : Nat → Nat × Nat} {t : Nat} {rm : Nat × Nat × Nat} {cs : Nat × Nat} {R : f_Rt} {x1 : Int} {x2 : Int} {M : e_M} (C : f_Hy sh t yX5_onlyEdgeFrom rm cs 4 (lX5_onlyEdgeFrom) R) (h : WX5_onlyEdgeFrom x1 x2 M (fun r => R (some (.inl r)) M)) : f_E sh t YX5_onlyEdgeFrom rm cs (f_Q sh t R) 0 [.inr (.inr (.inl (5, 12, 4426))), .inl x1, .inl x2, .inr (.inr (.inr ())), .inr (.inr (.inr ()))] [] M :=
  BX5_onlyEdgeFrom C (fun x1 x2 x3 x4 ⟨j, h⟩ => PX5_onlyEdgeFrom_5 C j _ _ _ _ h) h
def wX5_onlyEdgeFrom : f_Wt := f_wm [(4436, 5, 12), (1, 0, 0), (1, 0, 0)] (fun ar M R => WX5_onlyEdgeFrom (f_vi (f_nth ar 1)) (f_vi (f_nth ar 2)) M (fun r => R (some (.inl r)) M))
theorem TX5_onlyEdgeFrom {sh : Nat → Nat × Nat} {t : Nat} : f_Mt sh t YX5_onlyEdgeFrom 4 (wX5_onlyEdgeFrom) :=
  f_Mt_of (k := 2) (Nat.le_of_ble_eq_true rfl) rfl rfl (fun ar M R rm cs h1 h2 h3 hX h => PX5_onlyEdgeFrom ⟨Nat.le_of_ble_eq_true rfl, h1, h2, h3, trivial, hX⟩ h)
def VX5_join_35 (c_X5_layEdges : Nat → Nat → e_M → (e_M → Prop) → Prop) (c_X5_dropShared : Int → e_M → (Int → e_M → Prop) → Prop) (c_X5_lay : Int → Int → e_M → (e_M → Prop) → Prop) (c_X5_onlyEdgeFrom : Int → Int → e_M → (Int → Prop) → Prop) (c_X5_close : Nat → e_M → (Int → e_M → Prop) → Prop) (k70 : Int → Int → e_M → Prop) (k62 : Int → Int → Int → Int → e_M → Prop) (Q : Int → e_M → Prop) (x3 : Int) (x4 : Int) (x5 : Int) (x6 : Int) (M : e_M) : Prop :=
  ((x3 ≤ x6 → (k70 x4 x5 M)) ∧ (x6 < x3 → ((0 ≤ x4 → (k70 x4 x5 M)) ∧ (x4 < 0 → ((0 ≤ x6 ∧ x6 < 160) ∧ (((M 4442 (x6.toNat)) = 0 → (k62 x3 x5 x6 x6 M)) ∧ (¬ (M 4442 (x6.toNat)) = 0 → (k62 x3 x5 x6 (-1) M))))))))
def VX5_join_62 (c_X5_layEdges : Nat → Nat → e_M → (e_M → Prop) → Prop) (c_X5_dropShared : Int → e_M → (Int → e_M → Prop) → Prop) (c_X5_lay : Int → Int → e_M → (e_M → Prop) → Prop) (c_X5_onlyEdgeFrom : Int → Int → e_M → (Int → Prop) → Prop) (c_X5_close : Nat → e_M → (Int → e_M → Prop) → Prop) (k35 : Int → Int → Int → Int → e_M → Prop) (Q : Int → e_M → Prop) (x3 : Int) (x5 : Int) (x6 : Int) (xs0 : Int) (M : e_M) : Prop :=
  (k35 x3 xs0 x5 (e_w32 (x6 + 1)) M)
def VX5_join_70 (c_X5_layEdges : Nat → Nat → e_M → (e_M → Prop) → Prop) (c_X5_dropShared : Int → e_M → (Int → e_M → Prop) → Prop) (c_X5_lay : Int → Int → e_M → (e_M → Prop) → Prop) (c_X5_onlyEdgeFrom : Int → Int → e_M → (Int → Prop) → Prop) (c_X5_close : Nat → e_M → (Int → e_M → Prop) → Prop) (k98 : Int → Int → Int → Int → e_M → Prop) (Q : Int → e_M → Prop) (x4 : Int) (x5 : Int) (M : e_M) : Prop :=
  ((x5 = (M 4426 11) → (Q 0 M)) ∧ (¬ x5 = (M 4426 11) → ((0 ≤ x4 → (∀ M1 : e_M, M1 = e_up M 4426 5 0 → (k98 x4 x5 x4 0 M1))) ∧ (x4 < 0 → (Q 0 M)))))
def VX5_join_98 (c_X5_layEdges : Nat → Nat → e_M → (e_M → Prop) → Prop) (c_X5_dropShared : Int → e_M → (Int → e_M → Prop) → Prop) (c_X5_lay : Int → Int → e_M → (e_M → Prop) → Prop) (c_X5_onlyEdgeFrom : Int → Int → e_M → (Int → Prop) → Prop) (c_X5_close : Nat → e_M → (Int → e_M → Prop) → Prop) (k155 : Int → Int → Int → Int → e_M → Prop) (k98 : Int → Int → Int → Int → e_M → Prop) (Q : Int → e_M → Prop) (x4 : Int) (x5 : Int) (x6 : Int) (x7 : Int) (M : e_M) : Prop :=
  ((x5 ≤ x7 → (Q 0 M)) ∧ (x7 < x5 → ((0 ≤ x6 ∧ x6 < 160) ∧ ((0 ≤ x6 ∧ x6 < 160) ∧ (c_X5_lay (M 4438 (x6.toNat)) (M 4439 (x6.toNat)) M (fun M1 => ((0 ≤ x6 ∧ x6 < 160) ∧ ((0 ≤ x6 ∧ x6 < 160) ∧ (c_X5_onlyEdgeFrom (M1 4440 (x6.toNat)) (M1 4441 (x6.toNat)) M1 (fun r2 => ((r2 < 0 → (k155 x4 x5 r2 x7 M1)) ∧ (0 ≤ r2 → ((¬ r2 = x4 → (k98 x4 x5 r2 (e_w32 (x7 + 1)) M1)) ∧ (r2 = x4 → (k155 x4 x5 r2 x7 M1)))))))))))))))
def VX5_join_155 (c_X5_layEdges : Nat → Nat → e_M → (e_M → Prop) → Prop) (c_X5_dropShared : Int → e_M → (Int → e_M → Prop) → Prop) (c_X5_lay : Int → Int → e_M → (e_M → Prop) → Prop) (c_X5_onlyEdgeFrom : Int → Int → e_M → (Int → Prop) → Prop) (c_X5_close : Nat → e_M → (Int → e_M → Prop) → Prop) (Q : Int → e_M → Prop) (x4 : Int) (x5 : Int) (x6 : Int) (x7 : Int) (M : e_M) : Prop :=
  ((¬ x6 = x4 → (Q 0 M)) ∧ (x6 = x4 → ((¬ (e_w32 (x7 + 1)) = x5 → (Q 0 M)) ∧ ((e_w32 (x7 + 1)) = x5 → (c_X5_close 4433 M (fun r1 M2 => ((r1 = 0 → (Q 0 M2)) ∧ (¬ r1 = 0 → (Q 1 M2)))))))))
def VX5_join (c_X5_layEdges : Nat → Nat → e_M → (e_M → Prop) → Prop) (c_X5_dropShared : Int → e_M → (Int → e_M → Prop) → Prop) (c_X5_lay : Int → Int → e_M → (e_M → Prop) → Prop) (c_X5_onlyEdgeFrom : Int → Int → e_M → (Int → Prop) → Prop) (c_X5_close : Nat → e_M → (Int → e_M → Prop) → Prop) (k35 : Int → Int → Int → Int → e_M → Prop) (Q : Int → e_M → Prop) (a1 : Nat) (a2 : Nat) (M : e_M) : Prop :=
  (∀ M1 : e_M, M1 = e_up M 4426 11 0 → (c_X5_layEdges a1 a2 M1 (fun M2 => (c_X5_layEdges a2 a1 M2 (fun M3 => (c_X5_dropShared (M2 4426 11) M3 (fun r4 M5 => (k35 (M2 4426 11) (-1) r4 0 M5))))))))
def yX5_join (i : Nat) : e_Y := x_get YX5_join [YX5_layEdges, YX5_dropShared, YX5_lay, YX5_onlyEdgeFrom, YX5_close] i
def pX5_joinf : List x_I := [(0, 4, 1, 0, 0, 0, []), (1, 0, 1, 0, 0, 0, []), (2, 26, 5, 11, 0, 0, []), (5, 4, 1, 0, 0, 0, []), (6, 4, 1, 1, 0, 0, []), (7, 4, 1, 2, 0, 0, []), (8, 40, 0, 3, 7, 0, []), (11, 4, 1, 0, 0, 0, []), (12, 25, 5, 11, 0, 0, []), (15, 5, 1, 3, 0, 0, []), (16, 4, 1, 0, 0, 0, []), (17, 4, 1, 2, 0, 0, []), (18, 4, 1, 1, 0, 0, []), (19, 40, 0, 3, 7, 0, []), (22, 0, 1, 0, 0, (-1), []), (23, 5, 2, 4, 0, 0, []), (25, 4, 1, 0, 0, 0, []), (26, 2, 1, 3, 0, 0, []), (27, 40, 1, 2, 7, 0, []), (30, 5, 2, 5, 0, 0, []), (32, 0, 1, 0, 0, 0, []), (33, 5, 2, 6, 0, 0, []), (35, 49, 0, 0, 0, 0, []), (35, 2, 2, 6, 0, 0, []), (37, 2, 1, 3, 0, 0, []), (38, 18, 70, 3, 41, 0, []), (41, 2, 2, 4, 0, 0, []), (43, 17, 70, 3, 41, 0, []), (46, 4, 1, 0, 0, 0, []), (47, 25, 5, 10, 4, 0, [(0, 21, 160), (0, 1, 16)]), (50, 2, 2, 6, 0, 0, []), (52, 27, 0, 2, 0, 0, []), (53, 17, 60, 0, 36, 0, []), (56, 0, 1, 0, 0, (-1), []), (57, 19, 62, 0, 37, 0, []), (60, 2, 2, 6, 0, 0, []), (62, 49, 0, 0, 0, 0, []), (62, 5, 2, 4, 0, 0, []), (64, 8, 0, 6, 0, 1, []), (67, 19, 35, 0, 23, 0, []), (70, 49, 0, 0, 0, 0, []), (70, 2, 2, 5, 0, 0, []), (72, 4, 1, 0, 0, 0, []), (73, 25, 5, 11, 0, 0, []), (76, 18, 84, 0, 48, 0, []), (79, 2, 2, 4, 0, 0, []), (81, 17, 86, 3, 50, 0, []), (84, 0, 1, 0, 0, 0, []), (85, 48, 0, 0, 0, 0, []), (86, 4, 1, 0, 0, 0, []), (87, 0, 1, 0, 0, 0, []), (88, 26, 5, 5, 0, 0, []), (91, 2, 2, 4, 0, 0, []), (93, 5, 2, 6, 0, 0, []), (95, 0, 1, 0, 0, 0, []), (96, 5, 2, 7, 0, 0, []), (98, 49, 0, 0, 0, 0, []), (98, 2, 2, 7, 0, 0, []), (100, 2, 2, 5, 0, 0, []), (102, 18, 194, 3, 107, 0, []), (105, 4, 1, 0, 0, 0, []), (106, 4, 1, 0, 0, 0, []), (107, 25, 5, 6, 4, 0, [(0, 20, 160), (0, 1, 12)]), (110, 2, 2, 6, 0, 0, []), (112, 27, 0, 0, 0, 0, []), (113, 4, 1, 0, 0, 0, []), (114, 25, 5, 7, 4, 0, [(0, 20, 160), (0, 1, 13)]), (117, 2, 2, 6, 0, 0, []), (119, 27, 0, 0, 0, 0, []), (120, 40, 2, 3, 7, 0, []), (123, 4, 1, 0, 0, 0, []), (124, 4, 1, 0, 0, 0, []), (125, 25, 5, 8, 4, 0, [(0, 20, 160), (0, 1, 14)]), (128, 2, 2, 6, 0, 0, []), (130, 27, 0, 0, 0, 0, []), (131, 4, 1, 0, 0, 0, []), (132, 25, 5, 9, 4, 0, [(0, 20, 160), (0, 1, 15)]), (135, 2, 2, 6, 0, 0, []), (137, 27, 0, 0, 0, 0, []), (138, 40, 3, 3, 7, 0, []), (141, 5, 2, 6, 0, 0, []), (143, 2, 2, 6, 0, 0, []), (145, 17, 155, 2, 87, 0, []), (148, 2, 2, 6, 0, 0, []), (150, 2, 2, 4, 0, 0, []), (152, 18, 188, 1, 105, 0, []), (155, 49, 0, 0, 0, 0, []), (155, 2, 2, 6, 0, 0, []), (157, 2, 2, 4, 0, 0, []), (159, 18, 186, 1, 103, 0, []), (162, 2, 2, 7, 0, 0, []), (164, 0, 1, 0, 0, 1, []), (165, 9, 0, 0, 0, 0, []), (166, 2, 2, 5, 0, 0, []), (168, 18, 186, 1, 103, 0, []), (171, 4, 1, 0, 0, 0, []), (172, 4, 1, 0, 0, 0, []), (173, 25, 5, 2, 4, 0, [(0, 3, 3), (0, 1, 7)]), (176, 40, 4, 2, 7, 0, []), (179, 17, 186, 0, 103, 0, []), (182, 0, 1, 0, 0, 1, []), (183, 19, 187, 0, 104, 0, []), (186, 0, 1, 0, 0, 0, []), (187, 48, 0, 0, 0, 0, []), (188, 8, 0, 7, 0, 1, []), (191, 19, 98, 0, 57, 0, []), (194, 0, 1, 0, 0, 0, []), (195, 48, 0, 0, 0, 0, [])]
set_option maxRecDepth 20000 in
theorem qX5_joinf : f_all yX5_join YX5_join pX5_joinf :=
  ⟨f_aload_n (n := 0) (e_dx DX5_join_0 0 rfl) rfl,
  f_iconst (e_dx DX5_join_0 1 rfl) ⟨by decide, by decide⟩,
  f_putn (e_dx DX5_join_0 2 rfl) fX5_51 (fun q hq => by cases hq; rfl) rfl (Or.inl rfl) (by decide),
  f_aload_n (n := 0) (e_dx DX5_join_0 3 rfl) rfl,
  f_aload_n (n := 1) (e_dx DX5_join_0 4 rfl) rfl,
  f_aload_n (n := 2) (e_dx DX5_join_0 5 rfl) rfl,
  x_callV (e_dx DX5_join_0 6 rfl) mwX5_layEdges vwX5_layEdges cX5_125 rfl,
  f_aload_n (n := 0) (e_dx DX5_join_0 7 rfl) rfl,
  f_getf (e_dx DX5_join_0 8 rfl) fX5_51 rfl (by decide) (by decide) (by decide),
  f_istore_n (n := 3) (e_dx DX5_join_0 9 rfl) rfl (by decide),
  f_aload_n (n := 0) (e_dx DX5_join_0 10 rfl) rfl,
  f_aload_n (n := 2) (e_dx DX5_join_0 11 rfl) rfl,
  f_aload_n (n := 1) (e_dx DX5_join_0 12 rfl) rfl,
  x_callV (e_dx DX5_join_0 13 rfl) mwX5_layEdges vwX5_layEdges cX5_125 rfl,
  f_iconst (e_dx DX5_join_0 14 rfl) ⟨by decide, by decide⟩,
  f_istore (e_dx DX5_join_0 15 rfl) (by decide),
  f_aload_n (n := 0) (e_dx DX5_join_0 16 rfl) rfl,
  f_iload_n (n := 3) (e_dx DX5_join_0 17 rfl) rfl,
  x_callV (e_dx DX5_join_0 18 rfl) mwX5_dropShared vwX5_dropShared cX5_129 rfl,
  f_istore (e_dx DX5_join_0 19 rfl) (by decide),
  f_iconst (e_dx DX5_join_0 20 rfl) ⟨by decide, by decide⟩,
  f_istore (e_dx DX5_join_0 21 rfl) (by decide),
  trivial,
  f_iload (e_dx DX5_join_0 22 rfl),
  f_iload_n (n := 3) (e_dx DX5_join_0 23 rfl) rfl,
  f_icmp_ge (e_dx DX5_join_0 24 rfl) rfl,
  f_iload (e_dx DX5_join_0 25 rfl),
  f_if_ge (e_dx DX5_join_0 26 rfl) rfl,
  f_aload_n (n := 0) (e_dx DX5_join_0 27 rfl) rfl,
  f_getA (e_dx DX5_join_0 28 rfl) fX5_47 rfl (by decide) (Nat.le_of_ble_eq_true rfl) rfl (by decide),
  f_iload (e_dx DX5_join_0 29 rfl),
  f_baload (e_dx DX5_join_0 30 rfl),
  f_if_eq (e_dx DX5_join_0 31 rfl) rfl,
  f_iconst (e_dx DX5_join_0 32 rfl) ⟨by decide, by decide⟩,
  f_g19 (e_dx DX5_join_0 33 rfl) rfl,
  f_iload (e_dx DX5_join_0 34 rfl),
  trivial,
  f_istore (e_dx DX5_join_0 35 rfl) (by decide),
  f_g8 (e_dx DX5_join_0 36 rfl) ⟨by decide, by decide⟩,
  f_g19 (e_dx DX5_join_0 37 rfl) rfl,
  trivial,
  f_iload (e_dx DX5_join_0 38 rfl),
  f_aload_n (n := 0) (e_dx DX5_join_0 39 rfl) rfl,
  f_getf (e_dx DX5_join_1 0 rfl) fX5_51 rfl (by decide) (by decide) (by decide),
  f_icmp_eq (e_dx DX5_join_1 1 rfl) rfl,
  f_iload (e_dx DX5_join_1 2 rfl),
  f_if_ge (e_dx DX5_join_1 3 rfl) rfl,
  f_iconst (e_dx DX5_join_1 4 rfl) ⟨by decide, by decide⟩,
  ⟨(e_dx DX5_join_1 5 rfl), rfl⟩,
  f_aload_n (n := 0) (e_dx DX5_join_1 6 rfl) rfl,
  f_iconst (e_dx DX5_join_1 7 rfl) ⟨by decide, by decide⟩,
  f_putn (e_dx DX5_join_1 8 rfl) fX5_31 (fun q hq => by cases hq; rfl) rfl (Or.inl rfl) (by decide),
  f_iload (e_dx DX5_join_1 9 rfl),
  f_istore (e_dx DX5_join_1 10 rfl) (by decide),
  f_iconst (e_dx DX5_join_1 11 rfl) ⟨by decide, by decide⟩,
  f_istore (e_dx DX5_join_1 12 rfl) (by decide),
  trivial,
  f_iload (e_dx DX5_join_1 13 rfl),
  f_iload (e_dx DX5_join_1 14 rfl),
  f_icmp_ge (e_dx DX5_join_1 15 rfl) rfl,
  f_aload_n (n := 0) (e_dx DX5_join_1 16 rfl) rfl,
  f_aload_n (n := 0) (e_dx DX5_join_1 17 rfl) rfl,
  f_getA (e_dx DX5_join_1 18 rfl) fX5_35 rfl (by decide) (Nat.le_of_ble_eq_true rfl) rfl (by decide),
  f_iload (e_dx DX5_join_1 19 rfl),
  f_iaload (e_dx DX5_join_1 20 rfl),
  f_aload_n (n := 0) (e_dx DX5_join_1 21 rfl) rfl,
  f_getA (e_dx DX5_join_1 22 rfl) fX5_38 rfl (by decide) (Nat.le_of_ble_eq_true rfl) rfl (by decide),
  f_iload (e_dx DX5_join_1 23 rfl),
  f_iaload (e_dx DX5_join_1 24 rfl),
  x_callV (e_dx DX5_join_1 25 rfl) mwX5_lay vwX5_lay cX5_106 rfl,
  f_aload_n (n := 0) (e_dx DX5_join_1 26 rfl) rfl,
  f_aload_n (n := 0) (e_dx DX5_join_1 27 rfl) rfl,
  f_getA (e_dx DX5_join_1 28 rfl) fX5_41 rfl (by decide) (Nat.le_of_ble_eq_true rfl) rfl (by decide),
  f_iload (e_dx DX5_join_1 29 rfl),
  f_iaload (e_dx DX5_join_1 30 rfl),
  f_aload_n (n := 0) (e_dx DX5_join_1 31 rfl) rfl,
  f_getA (e_dx DX5_join_1 32 rfl) fX5_44 rfl (by decide) (Nat.le_of_ble_eq_true rfl) rfl (by decide),
  f_iload (e_dx DX5_join_1 33 rfl),
  f_iaload (e_dx DX5_join_1 34 rfl),
  x_callV (e_dx DX5_join_1 35 rfl) mwX5_onlyEdgeFrom vwX5_onlyEdgeFrom cX5_132 rfl,
  f_istore (e_dx DX5_join_1 36 rfl) (by decide),
  f_iload (e_dx DX5_join_1 37 rfl),
  f_if_lt (e_dx DX5_join_1 38 rfl) rfl,
  f_iload (e_dx DX5_join_1 39 rfl),
  f_iload (e_dx DX5_join_2 0 rfl),
  f_icmp_ne (e_dx DX5_join_2 1 rfl) rfl,
  trivial,
  f_iload (e_dx DX5_join_2 2 rfl),
  f_iload (e_dx DX5_join_2 3 rfl),
  f_icmp_ne (e_dx DX5_join_2 4 rfl) rfl,
  f_iload (e_dx DX5_join_2 5 rfl),
  f_iconst (e_dx DX5_join_2 6 rfl) ⟨by decide, by decide⟩,
  f_iadd (e_dx DX5_join_2 7 rfl),
  f_iload (e_dx DX5_join_2 8 rfl),
  f_icmp_ne (e_dx DX5_join_2 9 rfl) rfl,
  f_aload_n (n := 0) (e_dx DX5_join_2 10 rfl) rfl,
  f_aload_n (n := 0) (e_dx DX5_join_2 11 rfl) rfl,
  f_getA (e_dx DX5_join_2 12 rfl) fX5_21 rfl (by decide) (Nat.le_of_ble_eq_true rfl) rfl (by decide),
  x_callV (e_dx DX5_join_2 13 rfl) mwX5_close vwX5_close cX5_85 rfl,
  f_if_eq (e_dx DX5_join_2 14 rfl) rfl,
  f_iconst (e_dx DX5_join_2 15 rfl) ⟨by decide, by decide⟩,
  f_g19 (e_dx DX5_join_2 16 rfl) rfl,
  f_iconst (e_dx DX5_join_2 17 rfl) ⟨by decide, by decide⟩,
  ⟨(e_dx DX5_join_2 18 rfl), rfl⟩,
  f_g8 (e_dx DX5_join_2 19 rfl) ⟨by decide, by decide⟩,
  f_g19 (e_dx DX5_join_2 20 rfl) rfl,
  f_iconst (e_dx DX5_join_2 21 rfl) ⟨by decide, by decide⟩,
  ⟨(e_dx DX5_join_2 22 rfl), rfl⟩, trivial⟩
def lX5_join (c_X5_layEdges : Nat → Nat → e_M → (e_M → Prop) → Prop) (c_X5_dropShared : Int → e_M → (Int → e_M → Prop) → Prop) (c_X5_lay : Int → Int → e_M → (e_M → Prop) → Prop) (c_X5_onlyEdgeFrom : Int → Int → e_M → (Int → Prop) → Prop) (c_X5_close : Nat → e_M → (Int → e_M → Prop) → Prop) : List (Nat × f_Wt) := [(0, f_wm [(4436, 5, 12), (3, 3, 3), (3, 3, 3)] (fun ar M R => c_X5_layEdges (f_va (f_nth ar 1)) (f_va (f_nth ar 2)) M (fun M => R none M))), (1, f_wm [(4436, 5, 12), (1, 0, 0)] (fun ar M R => c_X5_dropShared (f_vi (f_nth ar 1)) M (fun r M => R (some (.inl r)) M))), (2, f_wm [(4436, 5, 12), (1, 0, 0), (1, 0, 0)] (fun ar M R => c_X5_lay (f_vi (f_nth ar 1)) (f_vi (f_nth ar 2)) M (fun M => R none M))), (3, f_wm [(4436, 5, 12), (1, 0, 0), (1, 0, 0)] (fun ar M R => c_X5_onlyEdgeFrom (f_vi (f_nth ar 1)) (f_vi (f_nth ar 2)) M (fun r => R (some (.inl r)) M))), (4, f_wm [(4436, 5, 12), (3, 3, 3)] (fun ar M R => c_X5_close (f_va (f_nth ar 1)) M (fun r M => R (some (.inl r)) M)))]
set_option maxRecDepth 20000 in
theorem BX5_join_35 {sh : Nat → Nat × Nat} {t : Nat} {rm : Nat × Nat × Nat} {cs : Nat × Nat} {R : f_Rt} {c_X5_layEdges : Nat → Nat → e_M → (e_M → Prop) → Prop} {c_X5_dropShared : Int → e_M → (Int → e_M → Prop) → Prop} {c_X5_lay : Int → Int → e_M → (e_M → Prop) → Prop} {c_X5_onlyEdgeFrom : Int → Int → e_M → (Int → Prop) → Prop} {c_X5_close : Nat → e_M → (Int → e_M → Prop) → Prop} {k70 : Int → Int → e_M → Prop} {k62 : Int → Int → Int → Int → e_M → Prop} {x3 : Int} {x4 : Int} {x5 : Int} {x6 : Int} {M : e_M} (C : f_Hy sh t yX5_join rm cs 7 (lX5_join c_X5_layEdges c_X5_dropShared c_X5_lay c_X5_onlyEdgeFrom c_X5_close) R) (h70 : ∀ (x4 : Int) (x5 : Int) (M : e_M), k70 x4 x5 M → f_E sh t YX5_join rm cs (f_Q sh t R) 70 [.inr (.inr (.inl (5, 12, 4426))), .inr (.inr (.inr ())), .inr (.inr (.inr ())), .inr (.inr (.inr ())), .inl x4, .inl x5, .inr (.inr (.inr ())), .inr (.inr (.inr ()))] [] M) (h62 : ∀ (x3 : Int) (x5 : Int) (x6 : Int) (xs0 : Int) (M : e_M), k62 x3 x5 x6 xs0 M → f_E sh t YX5_join rm cs (f_Q sh t R) 62 [.inr (.inr (.inl (5, 12, 4426))), .inr (.inr (.inr ())), .inr (.inr (.inr ())), .inl x3, .inr (.inr (.inr ())), .inl x5, .inl x6, .inr (.inr (.inr ()))] [.inl xs0] M) (h : VX5_join_35 c_X5_layEdges c_X5_dropShared c_X5_lay c_X5_onlyEdgeFrom c_X5_close k70 k62 (fun r M => R (some (.inl r)) M) x3 x4 x5 x6 M) : f_E sh t YX5_join rm cs (f_Q sh t R) 35 [.inr (.inr (.inl (5, 12, 4426))), .inr (.inr (.inr ())), .inr (.inr (.inr ())), .inl x3, .inl x4, .inl x5, .inl x6, .inr (.inr (.inr ()))] [] M :=
  f_go (KC := f_kc [(70, f_pl [(4436, 5, 12), (0, 0, 0), (0, 0, 0), (0, 0, 0), (1, 0, 0), (1, 0, 0), (0, 0, 0), (0, 0, 0)] [] (fun ls st M => k70 (f_vi (f_nth ls 4)) (f_vi (f_nth ls 5)) M)), (62, f_pl [(4436, 5, 12), (0, 0, 0), (0, 0, 0), (1, 0, 0), (0, 0, 0), (1, 0, 0), (1, 0, 0), (0, 0, 0)] [(1, 0, 0)] (fun ls st M => k62 (f_vi (f_nth ls 3)) (f_vi (f_nth ls 5)) (f_vi (f_nth ls 6)) (f_vi (f_nth st 0)) M))]) C qX5_joinf (f_kc_cons (f_pl_ok rfl (fun ls st M h => h70 _ _ M h)) (f_kc_cons (f_pl_ok rfl (fun ls st M h => h62 _ _ _ _ M h)) f_kc_nil)) 110 23 h
set_option maxRecDepth 20000 in
theorem BX5_join_62 {sh : Nat → Nat × Nat} {t : Nat} {rm : Nat × Nat × Nat} {cs : Nat × Nat} {R : f_Rt} {c_X5_layEdges : Nat → Nat → e_M → (e_M → Prop) → Prop} {c_X5_dropShared : Int → e_M → (Int → e_M → Prop) → Prop} {c_X5_lay : Int → Int → e_M → (e_M → Prop) → Prop} {c_X5_onlyEdgeFrom : Int → Int → e_M → (Int → Prop) → Prop} {c_X5_close : Nat → e_M → (Int → e_M → Prop) → Prop} {k35 : Int → Int → Int → Int → e_M → Prop} {x3 : Int} {x5 : Int} {x6 : Int} {xs0 : Int} {M : e_M} (C : f_Hy sh t yX5_join rm cs 7 (lX5_join c_X5_layEdges c_X5_dropShared c_X5_lay c_X5_onlyEdgeFrom c_X5_close) R) (h35 : ∀ (x3 : Int) (x4 : Int) (x5 : Int) (x6 : Int) (M : e_M), k35 x3 x4 x5 x6 M → f_E sh t YX5_join rm cs (f_Q sh t R) 35 [.inr (.inr (.inl (5, 12, 4426))), .inr (.inr (.inr ())), .inr (.inr (.inr ())), .inl x3, .inl x4, .inl x5, .inl x6, .inr (.inr (.inr ()))] [] M) (h : VX5_join_62 c_X5_layEdges c_X5_dropShared c_X5_lay c_X5_onlyEdgeFrom c_X5_close k35 (fun r M => R (some (.inl r)) M) x3 x5 x6 xs0 M) : f_E sh t YX5_join rm cs (f_Q sh t R) 62 [.inr (.inr (.inl (5, 12, 4426))), .inr (.inr (.inr ())), .inr (.inr (.inr ())), .inl x3, .inr (.inr (.inr ())), .inl x5, .inl x6, .inr (.inr (.inr ()))] [.inl xs0] M :=
  f_go (KC := f_kc [(35, f_pl [(4436, 5, 12), (0, 0, 0), (0, 0, 0), (1, 0, 0), (1, 0, 0), (1, 0, 0), (1, 0, 0), (0, 0, 0)] [] (fun ls st M => k35 (f_vi (f_nth ls 3)) (f_vi (f_nth ls 4)) (f_vi (f_nth ls 5)) (f_vi (f_nth ls 6)) M))]) C qX5_joinf (f_kc_cons (f_pl_ok rfl (fun ls st M h => h35 _ _ _ _ M h)) f_kc_nil) 110 37 h
set_option maxRecDepth 20000 in
theorem BX5_join_70 {sh : Nat → Nat × Nat} {t : Nat} {rm : Nat × Nat × Nat} {cs : Nat × Nat} {R : f_Rt} {c_X5_layEdges : Nat → Nat → e_M → (e_M → Prop) → Prop} {c_X5_dropShared : Int → e_M → (Int → e_M → Prop) → Prop} {c_X5_lay : Int → Int → e_M → (e_M → Prop) → Prop} {c_X5_onlyEdgeFrom : Int → Int → e_M → (Int → Prop) → Prop} {c_X5_close : Nat → e_M → (Int → e_M → Prop) → Prop} {k98 : Int → Int → Int → Int → e_M → Prop} {x4 : Int} {x5 : Int} {M : e_M} (C : f_Hy sh t yX5_join rm cs 7 (lX5_join c_X5_layEdges c_X5_dropShared c_X5_lay c_X5_onlyEdgeFrom c_X5_close) R) (h98 : ∀ (x4 : Int) (x5 : Int) (x6 : Int) (x7 : Int) (M : e_M), k98 x4 x5 x6 x7 M → f_E sh t YX5_join rm cs (f_Q sh t R) 98 [.inr (.inr (.inl (5, 12, 4426))), .inr (.inr (.inr ())), .inr (.inr (.inr ())), .inr (.inr (.inr ())), .inl x4, .inl x5, .inl x6, .inl x7] [] M) (h : VX5_join_70 c_X5_layEdges c_X5_dropShared c_X5_lay c_X5_onlyEdgeFrom c_X5_close k98 (fun r M => R (some (.inl r)) M) x4 x5 M) : f_E sh t YX5_join rm cs (f_Q sh t R) 70 [.inr (.inr (.inl (5, 12, 4426))), .inr (.inr (.inr ())), .inr (.inr (.inr ())), .inr (.inr (.inr ())), .inl x4, .inl x5, .inr (.inr (.inr ())), .inr (.inr (.inr ()))] [] M :=
  f_go (KC := f_kc [(98, f_pl [(4436, 5, 12), (0, 0, 0), (0, 0, 0), (0, 0, 0), (1, 0, 0), (1, 0, 0), (1, 0, 0), (1, 0, 0)] [] (fun ls st M => k98 (f_vi (f_nth ls 4)) (f_vi (f_nth ls 5)) (f_vi (f_nth ls 6)) (f_vi (f_nth ls 7)) M))]) C qX5_joinf (f_kc_cons (f_pl_ok rfl (fun ls st M h => h98 _ _ _ _ M h)) f_kc_nil) 110 41 h
set_option maxRecDepth 20000 in
theorem BX5_join_98 {sh : Nat → Nat × Nat} {t : Nat} {rm : Nat × Nat × Nat} {cs : Nat × Nat} {R : f_Rt} {c_X5_layEdges : Nat → Nat → e_M → (e_M → Prop) → Prop} {c_X5_dropShared : Int → e_M → (Int → e_M → Prop) → Prop} {c_X5_lay : Int → Int → e_M → (e_M → Prop) → Prop} {c_X5_onlyEdgeFrom : Int → Int → e_M → (Int → Prop) → Prop} {c_X5_close : Nat → e_M → (Int → e_M → Prop) → Prop} {k155 : Int → Int → Int → Int → e_M → Prop} {k98 : Int → Int → Int → Int → e_M → Prop} {x4 : Int} {x5 : Int} {x6 : Int} {x7 : Int} {M : e_M} (C : f_Hy sh t yX5_join rm cs 7 (lX5_join c_X5_layEdges c_X5_dropShared c_X5_lay c_X5_onlyEdgeFrom c_X5_close) R) (h155 : ∀ (x4 : Int) (x5 : Int) (x6 : Int) (x7 : Int) (M : e_M), k155 x4 x5 x6 x7 M → f_E sh t YX5_join rm cs (f_Q sh t R) 155 [.inr (.inr (.inl (5, 12, 4426))), .inr (.inr (.inr ())), .inr (.inr (.inr ())), .inr (.inr (.inr ())), .inl x4, .inl x5, .inl x6, .inl x7] [] M) (h98 : ∀ (x4 : Int) (x5 : Int) (x6 : Int) (x7 : Int) (M : e_M), k98 x4 x5 x6 x7 M → f_E sh t YX5_join rm cs (f_Q sh t R) 98 [.inr (.inr (.inl (5, 12, 4426))), .inr (.inr (.inr ())), .inr (.inr (.inr ())), .inr (.inr (.inr ())), .inl x4, .inl x5, .inl x6, .inl x7] [] M) (h : VX5_join_98 c_X5_layEdges c_X5_dropShared c_X5_lay c_X5_onlyEdgeFrom c_X5_close k155 k98 (fun r M => R (some (.inl r)) M) x4 x5 x6 x7 M) : f_E sh t YX5_join rm cs (f_Q sh t R) 98 [.inr (.inr (.inl (5, 12, 4426))), .inr (.inr (.inr ())), .inr (.inr (.inr ())), .inr (.inr (.inr ())), .inl x4, .inl x5, .inl x6, .inl x7] [] M :=
  f_go (KC := f_kc [(155, f_pl [(4436, 5, 12), (0, 0, 0), (0, 0, 0), (0, 0, 0), (1, 0, 0), (1, 0, 0), (1, 0, 0), (1, 0, 0)] [] (fun ls st M => k155 (f_vi (f_nth ls 4)) (f_vi (f_nth ls 5)) (f_vi (f_nth ls 6)) (f_vi (f_nth ls 7)) M)), (98, f_pl [(4436, 5, 12), (0, 0, 0), (0, 0, 0), (0, 0, 0), (1, 0, 0), (1, 0, 0), (1, 0, 0), (1, 0, 0)] [] (fun ls st M => k98 (f_vi (f_nth ls 4)) (f_vi (f_nth ls 5)) (f_vi (f_nth ls 6)) (f_vi (f_nth ls 7)) M))]) C qX5_joinf (f_kc_cons (f_pl_ok rfl (fun ls st M h => h155 _ _ _ _ M h)) (f_kc_cons (f_pl_ok rfl (fun ls st M h => h98 _ _ _ _ M h)) f_kc_nil)) 110 57 h
set_option maxRecDepth 20000 in
theorem BX5_join_155 {sh : Nat → Nat × Nat} {t : Nat} {rm : Nat × Nat × Nat} {cs : Nat × Nat} {R : f_Rt} {c_X5_layEdges : Nat → Nat → e_M → (e_M → Prop) → Prop} {c_X5_dropShared : Int → e_M → (Int → e_M → Prop) → Prop} {c_X5_lay : Int → Int → e_M → (e_M → Prop) → Prop} {c_X5_onlyEdgeFrom : Int → Int → e_M → (Int → Prop) → Prop} {c_X5_close : Nat → e_M → (Int → e_M → Prop) → Prop} {x4 : Int} {x5 : Int} {x6 : Int} {x7 : Int} {M : e_M} (C : f_Hy sh t yX5_join rm cs 7 (lX5_join c_X5_layEdges c_X5_dropShared c_X5_lay c_X5_onlyEdgeFrom c_X5_close) R) (h : VX5_join_155 c_X5_layEdges c_X5_dropShared c_X5_lay c_X5_onlyEdgeFrom c_X5_close (fun r M => R (some (.inl r)) M) x4 x5 x6 x7 M) : f_E sh t YX5_join rm cs (f_Q sh t R) 155 [.inr (.inr (.inl (5, 12, 4426))), .inr (.inr (.inr ())), .inr (.inr (.inr ())), .inr (.inr (.inr ())), .inl x4, .inl x5, .inl x6, .inl x7] [] M :=
  f_go (KC := f_kc []) C qX5_joinf f_kc_nil 110 87 h
set_option maxRecDepth 20000 in
theorem BX5_join {sh : Nat → Nat × Nat} {t : Nat} {rm : Nat × Nat × Nat} {cs : Nat × Nat} {R : f_Rt} {c_X5_layEdges : Nat → Nat → e_M → (e_M → Prop) → Prop} {c_X5_dropShared : Int → e_M → (Int → e_M → Prop) → Prop} {c_X5_lay : Int → Int → e_M → (e_M → Prop) → Prop} {c_X5_onlyEdgeFrom : Int → Int → e_M → (Int → Prop) → Prop} {c_X5_close : Nat → e_M → (Int → e_M → Prop) → Prop} {k35 : Int → Int → Int → Int → e_M → Prop} {a1 : Nat} {a2 : Nat} {M : e_M} (C : f_Hy sh t yX5_join rm cs 7 (lX5_join c_X5_layEdges c_X5_dropShared c_X5_lay c_X5_onlyEdgeFrom c_X5_close) R) (h35 : ∀ (x3 : Int) (x4 : Int) (x5 : Int) (x6 : Int) (M : e_M), k35 x3 x4 x5 x6 M → f_E sh t YX5_join rm cs (f_Q sh t R) 35 [.inr (.inr (.inl (5, 12, 4426))), .inr (.inr (.inr ())), .inr (.inr (.inr ())), .inl x3, .inl x4, .inl x5, .inl x6, .inr (.inr (.inr ()))] [] M) (h : VX5_join c_X5_layEdges c_X5_dropShared c_X5_lay c_X5_onlyEdgeFrom c_X5_close k35 (fun r M => R (some (.inl r)) M) a1 a2 M) : f_E sh t YX5_join rm cs (f_Q sh t R) 0 [.inr (.inr (.inl (5, 12, 4426))), .inr (.inr (.inl (3, 3, a1))), .inr (.inr (.inl (3, 3, a2))), .inr (.inr (.inr ())), .inr (.inr (.inr ())), .inr (.inr (.inr ())), .inr (.inr (.inr ())), .inr (.inr (.inr ()))] [] M :=
  f_go (KC := f_kc [(35, f_pl [(4436, 5, 12), (0, 0, 0), (0, 0, 0), (1, 0, 0), (1, 0, 0), (1, 0, 0), (1, 0, 0), (0, 0, 0)] [] (fun ls st M => k35 (f_vi (f_nth ls 3)) (f_vi (f_nth ls 4)) (f_vi (f_nth ls 5)) (f_vi (f_nth ls 6)) M))]) C qX5_joinf (f_kc_cons (f_pl_ok rfl (fun ls st M h => h35 _ _ _ _ M h)) f_kc_nil) 110 0 h
def WX5_join_155 (Q : Int → e_M → Prop) (x4 : Int) (x5 : Int) (x6 : Int) (x7 : Int) (M : e_M) : Prop :=
  VX5_join_155 WX5_layEdges WX5_dropShared WX5_lay WX5_onlyEdgeFrom WX5_close Q x4 x5 x6 x7 M
def WX5_join_98 (Q : Int → e_M → Prop) : Nat → Int → Int → Int → Int → e_M → Prop
  | 0, _, _, _, _, _ => False
  | n + 1, x4, x5, x6, x7, M =>
    VX5_join_98 WX5_layEdges WX5_dropShared WX5_lay WX5_onlyEdgeFrom WX5_close (WX5_join_155 Q) (WX5_join_98 Q n) Q x4 x5 x6 x7 M
def WX5_join_70 (Q : Int → e_M → Prop) (x4 : Int) (x5 : Int) (M : e_M) : Prop :=
  VX5_join_70 WX5_layEdges WX5_dropShared WX5_lay WX5_onlyEdgeFrom WX5_close (fun x4 x5 x6 x7 M => ∃ j, WX5_join_98 Q j x4 x5 x6 x7 M) Q x4 x5 M
def WX5_join_62 (H35 : Int → Int → Int → Int → e_M → Prop) (Q : Int → e_M → Prop) (x3 : Int) (x5 : Int) (x6 : Int) (xs0 : Int) (M : e_M) : Prop :=
  VX5_join_62 WX5_layEdges WX5_dropShared WX5_lay WX5_onlyEdgeFrom WX5_close H35 Q x3 x5 x6 xs0 M
def WX5_join_35 (Q : Int → e_M → Prop) : Nat → Int → Int → Int → Int → e_M → Prop
  | 0, _, _, _, _, _ => False
  | n + 1, x3, x4, x5, x6, M =>
    VX5_join_35 WX5_layEdges WX5_dropShared WX5_lay WX5_onlyEdgeFrom WX5_close (WX5_join_70 Q) (WX5_join_62 (WX5_join_35 Q n) Q) Q x3 x4 x5 x6 M
def WX5_join (a1 : Nat) (a2 : Nat) (M : e_M) (Q : Int → e_M → Prop) : Prop :=
  VX5_join WX5_layEdges WX5_dropShared WX5_lay WX5_onlyEdgeFrom WX5_close (fun x3 x4 x5 x6 M => ∃ j, WX5_join_35 Q j x3 x4 x5 x6 M) Q a1 a2 M
theorem PX5_join_155 {sh : Nat → Nat × Nat} {t : Nat} {rm : Nat × Nat × Nat} {cs : Nat × Nat} {R : f_Rt} {x4 : Int} {x5 : Int} {x6 : Int} {x7 : Int} {M : e_M} (C : f_Hy sh t yX5_join rm cs 7 (lX5_join WX5_layEdges WX5_dropShared WX5_lay WX5_onlyEdgeFrom WX5_close) R) (h : WX5_join_155 (fun r M => R (some (.inl r)) M) x4 x5 x6 x7 M) : f_E sh t YX5_join rm cs (f_Q sh t R) 155 [.inr (.inr (.inl (5, 12, 4426))), .inr (.inr (.inr ())), .inr (.inr (.inr ())), .inr (.inr (.inr ())), .inl x4, .inl x5, .inl x6, .inl x7] [] M :=
  BX5_join_155 C h
theorem PX5_join_98 {sh : Nat → Nat × Nat} {t : Nat} {rm : Nat × Nat × Nat} {cs : Nat × Nat} {R : f_Rt} (C : f_Hy sh t yX5_join rm cs 7 (lX5_join WX5_layEdges WX5_dropShared WX5_lay WX5_onlyEdgeFrom WX5_close) R) : ∀ (n : Nat) (x4 : Int) (x5 : Int) (x6 : Int) (x7 : Int) (M : e_M), WX5_join_98 (fun r M => R (some (.inl r)) M) n x4 x5 x6 x7 M → f_E sh t YX5_join rm cs (f_Q sh t R) 98 [.inr (.inr (.inl (5, 12, 4426))), .inr (.inr (.inr ())), .inr (.inr (.inr ())), .inr (.inr (.inr ())), .inl x4, .inl x5, .inl x6, .inl x7] [] M := by
  intro n
  induction n with
  | zero => intro x4 x5 x6 x7 M h; exact h.elim
  | succ n ih => intro x4 x5 x6 x7 M h; exact BX5_join_98 C (fun x4 x5 x6 x7 M h => PX5_join_155 C h) ih h
theorem PX5_join_70 {sh : Nat → Nat × Nat} {t : Nat} {rm : Nat × Nat × Nat} {cs : Nat × Nat} {R : f_Rt} {x4 : Int} {x5 : Int} {M : e_M} (C : f_Hy sh t yX5_join rm cs 7 (lX5_join WX5_layEdges WX5_dropShared WX5_lay WX5_onlyEdgeFrom WX5_close) R) (h : WX5_join_70 (fun r M => R (some (.inl r)) M) x4 x5 M) : f_E sh t YX5_join rm cs (f_Q sh t R) 70 [.inr (.inr (.inl (5, 12, 4426))), .inr (.inr (.inr ())), .inr (.inr (.inr ())), .inr (.inr (.inr ())), .inl x4, .inl x5, .inr (.inr (.inr ())), .inr (.inr (.inr ()))] [] M :=
  BX5_join_70 C (fun x4 x5 x6 x7 M ⟨j, h⟩ => PX5_join_98 C j _ _ _ _ _ h) h
theorem PX5_join_62 {sh : Nat → Nat × Nat} {t : Nat} {rm : Nat × Nat × Nat} {cs : Nat × Nat} {R : f_Rt} {H35 : Int → Int → Int → Int → e_M → Prop} {x3 : Int} {x5 : Int} {x6 : Int} {xs0 : Int} {M : e_M} (C : f_Hy sh t yX5_join rm cs 7 (lX5_join WX5_layEdges WX5_dropShared WX5_lay WX5_onlyEdgeFrom WX5_close) R) (g35 : ∀ (x3 : Int) (x4 : Int) (x5 : Int) (x6 : Int) (M : e_M), H35 x3 x4 x5 x6 M → f_E sh t YX5_join rm cs (f_Q sh t R) 35 [.inr (.inr (.inl (5, 12, 4426))), .inr (.inr (.inr ())), .inr (.inr (.inr ())), .inl x3, .inl x4, .inl x5, .inl x6, .inr (.inr (.inr ()))] [] M) (h : WX5_join_62 H35 (fun r M => R (some (.inl r)) M) x3 x5 x6 xs0 M) : f_E sh t YX5_join rm cs (f_Q sh t R) 62 [.inr (.inr (.inl (5, 12, 4426))), .inr (.inr (.inr ())), .inr (.inr (.inr ())), .inl x3, .inr (.inr (.inr ())), .inl x5, .inl x6, .inr (.inr (.inr ()))] [.inl xs0] M :=
  BX5_join_62 C g35 h
theorem PX5_join_35 {sh : Nat → Nat × Nat} {t : Nat} {rm : Nat × Nat × Nat} {cs : Nat × Nat} {R : f_Rt} (C : f_Hy sh t yX5_join rm cs 7 (lX5_join WX5_layEdges WX5_dropShared WX5_lay WX5_onlyEdgeFrom WX5_close) R) : ∀ (n : Nat) (x3 : Int) (x4 : Int) (x5 : Int) (x6 : Int) (M : e_M), WX5_join_35 (fun r M => R (some (.inl r)) M) n x3 x4 x5 x6 M → f_E sh t YX5_join rm cs (f_Q sh t R) 35 [.inr (.inr (.inl (5, 12, 4426))), .inr (.inr (.inr ())), .inr (.inr (.inr ())), .inl x3, .inl x4, .inl x5, .inl x6, .inr (.inr (.inr ()))] [] M := by
  intro n
  induction n with
  | zero => intro x3 x4 x5 x6 M h; exact h.elim
  | succ n ih => intro x3 x4 x5 x6 M h; exact BX5_join_35 C (fun x4 x5 M h => PX5_join_70 C h) (fun x3 x5 x6 xs0 M h => PX5_join_62 C ih h) h
theorem PX5_join {sh : Nat → Nat × Nat} {t : Nat} {rm : Nat × Nat × Nat} {cs : Nat × Nat} {R : f_Rt} {a1 : Nat} {a2 : Nat} {M : e_M} (C : f_Hy sh t yX5_join rm cs 7 (lX5_join WX5_layEdges WX5_dropShared WX5_lay WX5_onlyEdgeFrom WX5_close) R) (h : WX5_join a1 a2 M (fun r M => R (some (.inl r)) M)) : f_E sh t YX5_join rm cs (f_Q sh t R) 0 [.inr (.inr (.inl (5, 12, 4426))), .inr (.inr (.inl (3, 3, a1))), .inr (.inr (.inl (3, 3, a2))), .inr (.inr (.inr ())), .inr (.inr (.inr ())), .inr (.inr (.inr ())), .inr (.inr (.inr ())), .inr (.inr (.inr ()))] [] M :=
  BX5_join C (fun x3 x4 x5 x6 M ⟨j, h⟩ => PX5_join_35 C j _ _ _ _ _ h) h
def wX5_join : f_Wt := f_wm [(4436, 5, 12), (3, 3, 3), (3, 3, 3)] (fun ar M R => WX5_join (f_va (f_nth ar 1)) (f_va (f_nth ar 2)) M (fun r M => R (some (.inl r)) M))
theorem TX5_join {sh : Nat → Nat × Nat} {t : Nat} : f_Mt sh t YX5_join 7 (wX5_join) :=
  f_Mt_of (k := 5) (Nat.le_of_ble_eq_true rfl) rfl rfl (fun ar M R rm cs h1 h2 h3 hX h => PX5_join ⟨Nat.le_of_ble_eq_true rfl, h1, h2, h3, ⟨(f_Mt.up (Nat.le_of_ble_eq_true rfl) TX5_layEdges), (f_Mt.up (Nat.le_of_ble_eq_true rfl) TX5_dropShared), (f_Mt.up (Nat.le_of_ble_eq_true rfl) TX5_lay), (f_Mt.up (Nat.le_of_ble_eq_true rfl) TX5_onlyEdgeFrom), (f_Mt.up (Nat.le_of_ble_eq_true rfl) TX5_close), trivial⟩, hX⟩ h)
def VX8_merge_3 (c_X8_remove : Nat → Int → e_M → (e_M → Prop) → Prop) (k34 : Nat → Int → Int → Int → Int → e_M → Prop) (k3 : Nat → Int → Int → Int → Int → e_M → Prop) (Q : e_M → Prop) (a0 : Nat) (x1 : Int) (x2 : Int) (x3 : Int) (x4 : Int) (M : e_M) : Prop :=
  (((M a0 1) ≤ x4 → (Q M)) ∧ (x4 < (M a0 1) → ((0 ≤ x4 ∧ x4 < 8) ∧ (((M (a0 + 1) (x4.toNat)) = x1 → (k34 a0 x1 x2 x3 x4 M)) ∧ (¬ (M (a0 + 1) (x4.toNat)) = x1 → ((0 ≤ x4 ∧ x4 < 8) ∧ ((¬ (M (a0 + 1) (x4.toNat)) = x2 → (k3 a0 x1 x2 x3 (e_w32 (x4 + 1)) M)) ∧ ((M (a0 + 1) (x4.toNat)) = x2 → (k34 a0 x1 x2 x3 x4 M)))))))))
def VX8_merge_34 (c_X8_remove : Nat → Int → e_M → (e_M → Prop) → Prop) (Q : e_M → Prop) (a0 : Nat) (x1 : Int) (x2 : Int) (x3 : Int) (x4 : Int) (M : e_M) : Prop :=
  ((0 ≤ x4 ∧ x4 < 8) ∧ (∀ M1 : e_M, M1 = e_up M (a0 + 1) (x4.toNat) x3 → (c_X8_remove a0 x1 M1 (fun M2 => (c_X8_remove a0 x2 M2 (fun M3 => (Q M3)))))))
def VX8_merge (c_X8_remove : Nat → Int → e_M → (e_M → Prop) → Prop) (k3 : Nat → Int → Int → Int → Int → e_M → Prop) (Q : e_M → Prop) (a0 : Nat) (x1 : Int) (x2 : Int) (x3 : Int) (M : e_M) : Prop :=
  (k3 a0 x1 x2 x3 0 M)
def yX8_merge (i : Nat) : e_Y := x_get YX8_merge [YX8_remove] i
def pX8_mergef : List x_I := [(0, 0, 1, 0, 0, 0, []), (1, 5, 2, 4, 0, 0, []), (3, 49, 0, 0, 0, 0, []), (3, 2, 2, 4, 0, 0, []), (5, 4, 1, 0, 0, 0, []), (6, 25, 8, 1, 0, 0, []), (9, 18, 59, 3, 35, 0, []), (12, 4, 1, 0, 0, 0, []), (13, 25, 8, 0, 4, 0, [(0, 20, 8), (0, 1, 1)]), (16, 2, 2, 4, 0, 0, []), (18, 27, 0, 0, 0, 0, []), (19, 2, 1, 1, 0, 0, []), (20, 18, 34, 0, 20, 0, []), (23, 4, 1, 0, 0, 0, []), (24, 25, 8, 0, 4, 0, [(0, 20, 8), (0, 1, 1)]), (27, 2, 2, 4, 0, 0, []), (29, 27, 0, 0, 0, 0, []), (30, 2, 1, 2, 0, 0, []), (31, 18, 53, 1, 33, 0, []), (34, 49, 0, 0, 0, 0, []), (34, 4, 1, 0, 0, 0, []), (35, 25, 8, 0, 4, 0, [(0, 20, 8), (0, 1, 1)]), (38, 2, 2, 4, 0, 0, []), (40, 2, 1, 3, 0, 0, []), (41, 28, 0, 0, 0, 0, []), (42, 4, 1, 0, 0, 0, []), (43, 2, 1, 1, 0, 0, []), (44, 40, 0, 2, 10, 0, []), (47, 4, 1, 0, 0, 0, []), (48, 2, 1, 2, 0, 0, []), (49, 40, 0, 2, 10, 0, []), (52, 44, 0, 0, 0, 0, []), (53, 8, 0, 4, 0, 1, []), (56, 19, 3, 0, 3, 0, []), (59, 44, 0, 0, 0, 0, [])]
set_option maxRecDepth 20000 in
theorem qX8_mergef : f_all yX8_merge YX8_merge pX8_mergef :=
  ⟨f_iconst (e_dx DX8_merge_0 0 rfl) ⟨by decide, by decide⟩,
  f_istore (e_dx DX8_merge_0 1 rfl) (by decide),
  trivial,
  f_iload (e_dx DX8_merge_0 2 rfl),
  f_aload_n (n := 0) (e_dx DX8_merge_0 3 rfl) rfl,
  f_getf (e_dx DX8_merge_0 4 rfl) fX8_15 rfl (by decide) (by decide) (by decide),
  f_icmp_ge (e_dx DX8_merge_0 5 rfl) rfl,
  f_aload_n (n := 0) (e_dx DX8_merge_0 6 rfl) rfl,
  f_getA (e_dx DX8_merge_0 7 rfl) fX8_9 rfl (by decide) (Nat.le_of_ble_eq_true rfl) rfl (by decide),
  f_iload (e_dx DX8_merge_0 8 rfl),
  f_iaload (e_dx DX8_merge_0 9 rfl),
  f_iload_n (n := 1) (e_dx DX8_merge_0 10 rfl) rfl,
  f_icmp_eq (e_dx DX8_merge_0 11 rfl) rfl,
  f_aload_n (n := 0) (e_dx DX8_merge_0 12 rfl) rfl,
  f_getA (e_dx DX8_merge_0 13 rfl) fX8_9 rfl (by decide) (Nat.le_of_ble_eq_true rfl) rfl (by decide),
  f_iload (e_dx DX8_merge_0 14 rfl),
  f_iaload (e_dx DX8_merge_0 15 rfl),
  f_iload_n (n := 2) (e_dx DX8_merge_0 16 rfl) rfl,
  f_icmp_ne (e_dx DX8_merge_0 17 rfl) rfl,
  trivial,
  f_aload_n (n := 0) (e_dx DX8_merge_0 18 rfl) rfl,
  f_getA (e_dx DX8_merge_0 19 rfl) fX8_9 rfl (by decide) (Nat.le_of_ble_eq_true rfl) rfl (by decide),
  f_iload (e_dx DX8_merge_0 20 rfl),
  f_iload_n (n := 3) (e_dx DX8_merge_0 21 rfl) rfl,
  f_iastore (e_dx DX8_merge_0 22 rfl),
  f_aload_n (n := 0) (e_dx DX8_merge_0 23 rfl) rfl,
  f_iload_n (n := 1) (e_dx DX8_merge_0 24 rfl) rfl,
  x_callV (e_dx DX8_merge_0 25 rfl) mwX8_remove vwX8_remove cX8_31 rfl,
  f_aload_n (n := 0) (e_dx DX8_merge_0 26 rfl) rfl,
  f_iload_n (n := 2) (e_dx DX8_merge_0 27 rfl) rfl,
  x_callV (e_dx DX8_merge_0 28 rfl) mwX8_remove vwX8_remove cX8_31 rfl,
  ⟨(e_dx DX8_merge_0 29 rfl), rfl⟩,
  f_g8 (e_dx DX8_merge_0 30 rfl) ⟨by decide, by decide⟩,
  f_g19 (e_dx DX8_merge_0 31 rfl) rfl,
  ⟨(e_dx DX8_merge_0 32 rfl), rfl⟩, trivial⟩
def lX8_merge (c_X8_remove : Nat → Int → e_M → (e_M → Prop) → Prop) : List (Nat × f_Wt) := [(0, f_wm [(3, 8, 2), (1, 0, 0)] (fun ar M R => c_X8_remove (f_va (f_nth ar 0)) (f_vi (f_nth ar 1)) M (fun M => R none M)))]
set_option maxRecDepth 20000 in
theorem BX8_merge_3 {sh : Nat → Nat × Nat} {t : Nat} {rm : Nat × Nat × Nat} {cs : Nat × Nat} {R : f_Rt} {c_X8_remove : Nat → Int → e_M → (e_M → Prop) → Prop} {k34 : Nat → Int → Int → Int → Int → e_M → Prop} {k3 : Nat → Int → Int → Int → Int → e_M → Prop} {a0 : Nat} {x1 : Int} {x2 : Int} {x3 : Int} {x4 : Int} {M : e_M} (C : f_Hy sh t yX8_merge rm cs 6 (lX8_merge c_X8_remove) R) (h34 : ∀ (a0 : Nat) (x1 : Int) (x2 : Int) (x3 : Int) (x4 : Int) (M : e_M), k34 a0 x1 x2 x3 x4 M → f_E sh t YX8_merge rm cs (f_Q sh t R) 34 [.inr (.inr (.inl (8, 2, a0))), .inl x1, .inl x2, .inl x3, .inl x4] [] M) (h3 : ∀ (a0 : Nat) (x1 : Int) (x2 : Int) (x3 : Int) (x4 : Int) (M : e_M), k3 a0 x1 x2 x3 x4 M → f_E sh t YX8_merge rm cs (f_Q sh t R) 3 [.inr (.inr (.inl (8, 2, a0))), .inl x1, .inl x2, .inl x3, .inl x4] [] M) (h : VX8_merge_3 c_X8_remove k34 k3 (fun M => R none M) a0 x1 x2 x3 x4 M) : f_E sh t YX8_merge rm cs (f_Q sh t R) 3 [.inr (.inr (.inl (8, 2, a0))), .inl x1, .inl x2, .inl x3, .inl x4] [] M :=
  f_go (KC := f_kc [(34, f_pl [(3, 8, 2), (1, 0, 0), (1, 0, 0), (1, 0, 0), (1, 0, 0)] [] (fun ls st M => k34 (f_va (f_nth ls 0)) (f_vi (f_nth ls 1)) (f_vi (f_nth ls 2)) (f_vi (f_nth ls 3)) (f_vi (f_nth ls 4)) M)), (3, f_pl [(3, 8, 2), (1, 0, 0), (1, 0, 0), (1, 0, 0), (1, 0, 0)] [] (fun ls st M => k3 (f_va (f_nth ls 0)) (f_vi (f_nth ls 1)) (f_vi (f_nth ls 2)) (f_vi (f_nth ls 3)) (f_vi (f_nth ls 4)) M))]) C qX8_mergef (f_kc_cons (f_pl_ok rfl (fun ls st M h => h34 _ _ _ _ _ M h)) (f_kc_cons (f_pl_ok rfl (fun ls st M h => h3 _ _ _ _ _ M h)) f_kc_nil)) 37 3 h
set_option maxRecDepth 20000 in
theorem BX8_merge_34 {sh : Nat → Nat × Nat} {t : Nat} {rm : Nat × Nat × Nat} {cs : Nat × Nat} {R : f_Rt} {c_X8_remove : Nat → Int → e_M → (e_M → Prop) → Prop} {a0 : Nat} {x1 : Int} {x2 : Int} {x3 : Int} {x4 : Int} {M : e_M} (C : f_Hy sh t yX8_merge rm cs 6 (lX8_merge c_X8_remove) R) (h : VX8_merge_34 c_X8_remove (fun M => R none M) a0 x1 x2 x3 x4 M) : f_E sh t YX8_merge rm cs (f_Q sh t R) 34 [.inr (.inr (.inl (8, 2, a0))), .inl x1, .inl x2, .inl x3, .inl x4] [] M :=
  f_go (KC := f_kc []) C qX8_mergef f_kc_nil 37 20 h
set_option maxRecDepth 20000 in
theorem BX8_merge {sh : Nat → Nat × Nat} {t : Nat} {rm : Nat × Nat × Nat} {cs : Nat × Nat} {R : f_Rt} {c_X8_remove : Nat → Int → e_M → (e_M → Prop) → Prop} {k3 : Nat → Int → Int → Int → Int → e_M → Prop} {a0 : Nat} {x1 : Int} {x2 : Int} {x3 : Int} {M : e_M} (C : f_Hy sh t yX8_merge rm cs 6 (lX8_merge c_X8_remove) R) (h3 : ∀ (a0 : Nat) (x1 : Int) (x2 : Int) (x3 : Int) (x4 : Int) (M : e_M), k3 a0 x1 x2 x3 x4 M → f_E sh t YX8_merge rm cs (f_Q sh t R) 3 [.inr (.inr (.inl (8, 2, a0))), .inl x1, .inl x2, .inl x3, .inl x4] [] M) (h : VX8_merge c_X8_remove k3 (fun M => R none M) a0 x1 x2 x3 M) : f_E sh t YX8_merge rm cs (f_Q sh t R) 0 [.inr (.inr (.inl (8, 2, a0))), .inl x1, .inl x2, .inl x3, .inr (.inr (.inr ()))] [] M :=
  f_go (KC := f_kc [(3, f_pl [(3, 8, 2), (1, 0, 0), (1, 0, 0), (1, 0, 0), (1, 0, 0)] [] (fun ls st M => k3 (f_va (f_nth ls 0)) (f_vi (f_nth ls 1)) (f_vi (f_nth ls 2)) (f_vi (f_nth ls 3)) (f_vi (f_nth ls 4)) M))]) C qX8_mergef (f_kc_cons (f_pl_ok rfl (fun ls st M h => h3 _ _ _ _ _ M h)) f_kc_nil) 37 0 h
def WX8_merge_34 (Q : e_M → Prop) (a0 : Nat) (x1 : Int) (x2 : Int) (x3 : Int) (x4 : Int) (M : e_M) : Prop :=
  VX8_merge_34 WX8_remove Q a0 x1 x2 x3 x4 M
def WX8_merge_3 (Q : e_M → Prop) : Nat → Nat → Int → Int → Int → Int → e_M → Prop
  | 0, _, _, _, _, _, _ => False
  | n + 1, a0, x1, x2, x3, x4, M =>
    VX8_merge_3 WX8_remove (WX8_merge_34 Q) (WX8_merge_3 Q n) Q a0 x1 x2 x3 x4 M
def WX8_merge (a0 : Nat) (x1 : Int) (x2 : Int) (x3 : Int) (M : e_M) (Q : e_M → Prop) : Prop :=
  VX8_merge WX8_remove (fun a0 x1 x2 x3 x4 M => ∃ j, WX8_merge_3 Q j a0 x1 x2 x3 x4 M) Q a0 x1 x2 x3 M
theorem PX8_merge_34 {sh : Nat → Nat × Nat} {t : Nat} {rm : Nat × Nat × Nat} {cs : Nat × Nat} {R : f_Rt} {a0 : Nat} {x1 : Int} {x2 : Int} {x3 : Int} {x4 : Int} {M : e_M} (C : f_Hy sh t yX8_merge rm cs 6 (lX8_merge WX8_remove) R) (h : WX8_merge_34 (fun M => R none M) a0 x1 x2 x3 x4 M) : f_E sh t YX8_merge rm cs (f_Q sh t R) 34 [.inr (.inr (.inl (8, 2, a0))), .inl x1, .inl x2, .inl x3, .inl x4] [] M :=
  BX8_merge_34 C h
theorem PX8_merge_3 {sh : Nat → Nat × Nat} {t : Nat} {rm : Nat × Nat × Nat} {cs : Nat × Nat} {R : f_Rt} (C : f_Hy sh t yX8_merge rm cs 6 (lX8_merge WX8_remove) R) : ∀ (n : Nat) (a0 : Nat) (x1 : Int) (x2 : Int) (x3 : Int) (x4 : Int) (M : e_M), WX8_merge_3 (fun M => R none M) n a0 x1 x2 x3 x4 M → f_E sh t YX8_merge rm cs (f_Q sh t R) 3 [.inr (.inr (.inl (8, 2, a0))), .inl x1, .inl x2, .inl x3, .inl x4] [] M := by
  intro n
  induction n with
  | zero => intro a0 x1 x2 x3 x4 M h; exact h.elim
  | succ n ih => intro a0 x1 x2 x3 x4 M h; exact BX8_merge_3 C (fun a0 x1 x2 x3 x4 M h => PX8_merge_34 C h) ih h
theorem PX8_merge {sh : Nat → Nat × Nat} {t : Nat} {rm : Nat × Nat × Nat} {cs : Nat × Nat} {R : f_Rt} {a0 : Nat} {x1 : Int} {x2 : Int} {x3 : Int} {M : e_M} (C : f_Hy sh t yX8_merge rm cs 6 (lX8_merge WX8_remove) R) (h : WX8_merge a0 x1 x2 x3 M (fun M => R none M)) : f_E sh t YX8_merge rm cs (f_Q sh t R) 0 [.inr (.inr (.inl (8, 2, a0))), .inl x1, .inl x2, .inl x3, .inr (.inr (.inr ()))] [] M :=
  BX8_merge C (fun a0 x1 x2 x3 x4 M ⟨j, h⟩ => PX8_merge_3 C j _ _ _ _ _ _ h) h
def wX8_merge : f_Wt := f_wm [(3, 8, 2), (1, 0, 0), (1, 0, 0), (1, 0, 0)] (fun ar M R => WX8_merge (f_va (f_nth ar 0)) (f_vi (f_nth ar 1)) (f_vi (f_nth ar 2)) (f_vi (f_nth ar 3)) M (fun M => R none M))
theorem TX8_merge {sh : Nat → Nat × Nat} {t : Nat} : f_Mt sh t YX8_merge 6 (wX8_merge) :=
  f_Mt_of (k := 1) (Nat.le_of_ble_eq_true rfl) rfl rfl (fun ar M R rm cs h1 h2 h3 hX h => PX8_merge ⟨Nat.le_of_ble_eq_true rfl, h1, h2, h3, ⟨(f_Mt.up (Nat.le_of_ble_eq_true rfl) TX8_remove), trivial⟩, hX⟩ h)
def VX0_mergeRows_3 (c_X10_at : Nat → Int → Int → e_M → (Nat → Prop) → Prop) (c_X9_isThere : Nat → Int → e_M → (Int → Prop) → Prop) (c_X8_merge : Nat → Int → Int → Int → e_M → (e_M → Prop) → Prop) (c_X8_has : Nat → Int → e_M → (Int → Prop) → Prop) (c_X8_remove : Nat → Int → e_M → (e_M → Prop) → Prop) (k13 : Int → Int → Int → Int → Int → e_M → Prop) (Q : e_M → Prop) (x1 : Int) (x2 : Int) (x3 : Int) (x4 : Int) (M : e_M) : Prop :=
  ((6 < x4 → (Q M)) ∧ (x4 ≤ 6 → (k13 x1 x2 x3 x4 0 M)))
def VX0_mergeRows_13 (c_X10_at : Nat → Int → Int → e_M → (Nat → Prop) → Prop) (c_X9_isThere : Nat → Int → e_M → (Int → Prop) → Prop) (c_X8_merge : Nat → Int → Int → Int → e_M → (e_M → Prop) → Prop) (c_X8_has : Nat → Int → e_M → (Int → Prop) → Prop) (c_X8_remove : Nat → Int → e_M → (e_M → Prop) → Prop) (k3 : Int → Int → Int → Int → e_M → Prop) (k129 : Int → Int → Int → Int → Int → e_M → Prop) (k126 : Int → Int → Int → Int → Int → Int → Nat → e_M → Prop) (Q : e_M → Prop) (x1 : Int) (x2 : Int) (x3 : Int) (x4 : Int) (x5 : Int) (M : e_M) : Prop :=
  ((0 ≤ x4 ∧ x4 < 8) ∧ (((M ((M 4423 0).toNat + 24) (x4.toNat)) ≤ x5 → (k3 x1 x2 x3 (e_w32 (x4 + 1)) M)) ∧ (x5 < (M ((M 4423 0).toNat + 24) (x4.toNat)) → (c_X10_at ((M 4423 0).toNat) x4 x5 M (fun r1 => (c_X9_isThere r1 (M ((M 4423 0).toNat) 11) M (fun r2 => ((¬ r2 = 0 → (c_X8_merge ((M r1 9).toNat) x1 x2 x3 M (fun M3 => (c_X8_merge ((M3 r1 10).toNat) x1 x2 x3 M3 (fun M4 => ((¬ x4 = 3 → (k129 x1 x2 x3 x4 x5 M4)) ∧ (x4 = 3 → (c_X8_has ((M4 r1 9).toNat) x3 M4 (fun r5 => ((r5 = 0 → (k129 x1 x2 x3 x4 x5 M4)) ∧ (¬ r5 = 0 → (c_X8_remove ((M4 r1 10).toNat) x3 M4 (fun M6 => ((¬ (M6 ((M6 r1 10).toNat) 1) = 0 → (k126 x1 x2 x3 x4 x5 0 r1 M6)) ∧ ((M6 ((M6 r1 10).toNat) 1) = 0 → (k126 x1 x2 x3 x4 x5 1 r1 M6)))))))))))))))) ∧ (r2 = 0 → (k129 x1 x2 x3 x4 x5 M))))))))))
def VX0_mergeRows_126 (c_X10_at : Nat → Int → Int → e_M → (Nat → Prop) → Prop) (c_X9_isThere : Nat → Int → e_M → (Int → Prop) → Prop) (c_X8_merge : Nat → Int → Int → Int → e_M → (e_M → Prop) → Prop) (c_X8_has : Nat → Int → e_M → (Int → Prop) → Prop) (c_X8_remove : Nat → Int → e_M → (e_M → Prop) → Prop) (k129 : Int → Int → Int → Int → Int → e_M → Prop) (Q : e_M → Prop) (x1 : Int) (x2 : Int) (x3 : Int) (x4 : Int) (x5 : Int) (xs1 : Int) (as0 : Nat) (M : e_M) : Prop :=
  ((xs1 = 0 ∨ xs1 = 1) ∧ (∀ M1 : e_M, M1 = e_up M as0 2 xs1 → (k129 x1 x2 x3 x4 x5 M1)))
def VX0_mergeRows_129 (c_X10_at : Nat → Int → Int → e_M → (Nat → Prop) → Prop) (c_X9_isThere : Nat → Int → e_M → (Int → Prop) → Prop) (c_X8_merge : Nat → Int → Int → Int → e_M → (e_M → Prop) → Prop) (c_X8_has : Nat → Int → e_M → (Int → Prop) → Prop) (c_X8_remove : Nat → Int → e_M → (e_M → Prop) → Prop) (k13 : Int → Int → Int → Int → Int → e_M → Prop) (Q : e_M → Prop) (x1 : Int) (x2 : Int) (x3 : Int) (x4 : Int) (x5 : Int) (M : e_M) : Prop :=
  (k13 x1 x2 x3 x4 (e_w32 (x5 + 1)) M)
def VX0_mergeRows (c_X10_at : Nat → Int → Int → e_M → (Nat → Prop) → Prop) (c_X9_isThere : Nat → Int → e_M → (Int → Prop) → Prop) (c_X8_merge : Nat → Int → Int → Int → e_M → (e_M → Prop) → Prop) (c_X8_has : Nat → Int → e_M → (Int → Prop) → Prop) (c_X8_remove : Nat → Int → e_M → (e_M → Prop) → Prop) (k3 : Int → Int → Int → Int → e_M → Prop) (Q : e_M → Prop) (x1 : Int) (x2 : Int) (x3 : Int) (M : e_M) : Prop :=
  (k3 x1 x2 x3 2 M)
def yX0_mergeRows (i : Nat) : e_Y := x_get YX0_mergeRows [YX10_at, YX9_isThere, YX8_merge, YX8_has, YX8_remove] i
def pX0_mergeRowsf : List x_I := [(0, 0, 1, 0, 0, 2, []), (1, 5, 2, 4, 0, 0, []), (3, 49, 0, 0, 0, 0, []), (3, 2, 2, 4, 0, 0, []), (5, 0, 2, 0, 0, 6, []), (7, 18, 141, 4, 69, 0, []), (10, 0, 1, 0, 0, 0, []), (11, 5, 2, 5, 0, 0, []), (13, 49, 0, 0, 0, 0, []), (13, 2, 2, 5, 0, 0, []), (15, 4, 1, 0, 0, 0, []), (16, 25, 0, 0, 4, 0, [(0, 10, 15), (0, 0, 0)]), (19, 25, 10, 4, 4, 0, [(0, 20, 8), (0, 1, 24)]), (22, 2, 2, 4, 0, 0, []), (24, 27, 0, 0, 0, 0, []), (25, 18, 135, 3, 67, 0, []), (28, 4, 1, 0, 0, 0, []), (29, 25, 0, 0, 4, 0, [(0, 10, 15), (0, 0, 0)]), (32, 2, 2, 4, 0, 0, []), (34, 2, 2, 5, 0, 0, []), (36, 40, 0, 3, 12, 0, []), (39, 7, 2, 6, 0, 0, []), (41, 4, 2, 6, 0, 0, []), (43, 4, 1, 0, 0, 0, []), (44, 25, 0, 0, 4, 0, [(0, 10, 15), (0, 0, 0)]), (47, 25, 10, 11, 0, 0, []), (50, 40, 1, 2, 11, 0, []), (53, 17, 59, 1, 30, 0, []), (56, 19, 129, 0, 64, 0, []), (59, 4, 2, 6, 0, 0, []), (61, 25, 9, 9, 4, 0, [(0, 8, 2), (0, 0, 0)]), (64, 2, 1, 1, 0, 0, []), (65, 2, 1, 2, 0, 0, []), (66, 2, 1, 3, 0, 0, []), (67, 40, 2, 4, 10, 0, []), (70, 4, 2, 6, 0, 0, []), (72, 25, 9, 10, 4, 0, [(0, 8, 2), (0, 0, 0)]), (75, 2, 1, 1, 0, 0, []), (76, 2, 1, 2, 0, 0, []), (77, 2, 1, 3, 0, 0, []), (78, 40, 2, 4, 10, 0, []), (81, 2, 2, 4, 0, 0, []), (83, 0, 1, 0, 0, 3, []), (84, 18, 129, 1, 64, 0, []), (87, 4, 2, 6, 0, 0, []), (89, 25, 9, 9, 4, 0, [(0, 8, 2), (0, 0, 0)]), (92, 2, 1, 3, 0, 0, []), (93, 40, 3, 2, 10, 0, []), (96, 17, 129, 0, 64, 0, []), (99, 4, 2, 6, 0, 0, []), (101, 25, 9, 10, 4, 0, [(0, 8, 2), (0, 0, 0)]), (104, 2, 1, 3, 0, 0, []), (105, 40, 4, 2, 10, 0, []), (108, 4, 2, 6, 0, 0, []), (110, 4, 2, 6, 0, 0, []), (112, 25, 9, 10, 4, 0, [(0, 8, 2), (0, 0, 0)]), (115, 25, 8, 1, 0, 0, []), (118, 17, 125, 1, 61, 0, []), (121, 0, 1, 0, 0, 1, []), (122, 19, 126, 0, 62, 0, []), (125, 0, 1, 0, 0, 0, []), (126, 49, 0, 0, 0, 0, []), (126, 26, 9, 2, 1, 0, []), (129, 49, 0, 0, 0, 0, []), (129, 8, 0, 5, 0, 1, []), (132, 19, 13, 0, 9, 0, []), (135, 8, 0, 4, 0, 1, []), (138, 19, 3, 0, 3, 0, []), (141, 44, 0, 0, 0, 0, [])]
set_option maxRecDepth 20000 in
theorem qX0_mergeRowsf : f_all yX0_mergeRows YX0_mergeRows pX0_mergeRowsf :=
  ⟨f_iconst (e_dx DX0_mergeRows_0 0 rfl) ⟨by decide, by decide⟩,
  f_istore (e_dx DX0_mergeRows_0 1 rfl) (by decide),
  trivial,
  f_iload (e_dx DX0_mergeRows_0 2 rfl),
  f_bipush (e_dx DX0_mergeRows_0 3 rfl) ⟨by decide, by decide⟩,
  f_icmp_gt (e_dx DX0_mergeRows_0 4 rfl) rfl,
  f_iconst (e_dx DX0_mergeRows_0 5 rfl) ⟨by decide, by decide⟩,
  f_istore (e_dx DX0_mergeRows_0 6 rfl) (by decide),
  trivial,
  f_iload (e_dx DX0_mergeRows_0 7 rfl),
  f_aload_n (n := 0) (e_dx DX0_mergeRows_0 8 rfl) rfl,
  f_getA (e_dx DX0_mergeRows_0 9 rfl) fX0_36 rfl (by decide) (Nat.le_of_ble_eq_true rfl) rfl (by decide),
  f_getA (e_dx DX0_mergeRows_0 10 rfl) fX0_174 rfl (by decide) (Nat.le_of_ble_eq_true rfl) rfl (by decide),
  f_iload (e_dx DX0_mergeRows_0 11 rfl),
  f_iaload (e_dx DX0_mergeRows_0 12 rfl),
  f_icmp_ge (e_dx DX0_mergeRows_0 13 rfl) rfl,
  f_aload_n (n := 0) (e_dx DX0_mergeRows_0 14 rfl) rfl,
  f_getA (e_dx DX0_mergeRows_0 15 rfl) fX0_36 rfl (by decide) (Nat.le_of_ble_eq_true rfl) rfl (by decide),
  f_iload (e_dx DX0_mergeRows_0 16 rfl),
  f_iload (e_dx DX0_mergeRows_0 17 rfl),
  x_callV (e_dx DX0_mergeRows_0 18 rfl) mwX10_at vwX10_at cX0_152 rfl,
  f_astore (e_dx DX0_mergeRows_0 19 rfl) (by decide),
  f_aload (e_dx DX0_mergeRows_0 20 rfl),
  f_aload_n (n := 0) (e_dx DX0_mergeRows_0 21 rfl) rfl,
  f_getA (e_dx DX0_mergeRows_0 22 rfl) fX0_36 rfl (by decide) (Nat.le_of_ble_eq_true rfl) rfl (by decide),
  f_getf (e_dx DX0_mergeRows_0 23 rfl) fX0_49 rfl (by decide) (by decide) (by decide),
  x_callV (e_dx DX0_mergeRows_0 24 rfl) mwX9_isThere vwX9_isThere cX0_177 rfl,
  f_if_ne (e_dx DX0_mergeRows_0 25 rfl) rfl,
  f_g19 (e_dx DX0_mergeRows_0 26 rfl) rfl,
  f_aload (e_dx DX0_mergeRows_0 27 rfl),
  f_getA (e_dx DX0_mergeRows_0 28 rfl) fX0_179 rfl (by decide) (Nat.le_of_ble_eq_true rfl) rfl (by decide),
  f_iload_n (n := 1) (e_dx DX0_mergeRows_0 29 rfl) rfl,
  f_iload_n (n := 2) (e_dx DX0_mergeRows_0 30 rfl) rfl,
  f_iload_n (n := 3) (e_dx DX0_mergeRows_0 31 rfl) rfl,
  x_callV (e_dx DX0_mergeRows_0 32 rfl) mwX8_merge vwX8_merge cX0_373 rfl,
  f_aload (e_dx DX0_mergeRows_0 33 rfl),
  f_getA (e_dx DX0_mergeRows_0 34 rfl) fX0_293 rfl (by decide) (Nat.le_of_ble_eq_true rfl) rfl (by decide),
  f_iload_n (n := 1) (e_dx DX0_mergeRows_0 35 rfl) rfl,
  f_iload_n (n := 2) (e_dx DX0_mergeRows_0 36 rfl) rfl,
  f_iload_n (n := 3) (e_dx DX0_mergeRows_0 37 rfl) rfl,
  x_callV (e_dx DX0_mergeRows_0 38 rfl) mwX8_merge vwX8_merge cX0_373 rfl,
  f_iload (e_dx DX0_mergeRows_0 39 rfl),
  f_iconst (e_dx DX0_mergeRows_1 0 rfl) ⟨by decide, by decide⟩,
  f_icmp_ne (e_dx DX0_mergeRows_1 1 rfl) rfl,
  f_aload (e_dx DX0_mergeRows_1 2 rfl),
  f_getA (e_dx DX0_mergeRows_1 3 rfl) fX0_179 rfl (by decide) (Nat.le_of_ble_eq_true rfl) rfl (by decide),
  f_iload_n (n := 3) (e_dx DX0_mergeRows_1 4 rfl) rfl,
  x_callV (e_dx DX0_mergeRows_1 5 rfl) mwX8_has vwX8_has cX0_183 rfl,
  f_if_eq (e_dx DX0_mergeRows_1 6 rfl) rfl,
  f_aload (e_dx DX0_mergeRows_1 7 rfl),
  f_getA (e_dx DX0_mergeRows_1 8 rfl) fX0_293 rfl (by decide) (Nat.le_of_ble_eq_true rfl) rfl (by decide),
  f_iload_n (n := 3) (e_dx DX0_mergeRows_1 9 rfl) rfl,
  x_callV (e_dx DX0_mergeRows_1 10 rfl) mwX8_remove vwX8_remove cX0_376 rfl,
  f_aload (e_dx DX0_mergeRows_1 11 rfl),
  f_aload (e_dx DX0_mergeRows_1 12 rfl),
  f_getA (e_dx DX0_mergeRows_1 13 rfl) fX0_293 rfl (by decide) (Nat.le_of_ble_eq_true rfl) rfl (by decide),
  f_getf (e_dx DX0_mergeRows_1 14 rfl) fX0_338 rfl (by decide) (by decide) (by decide),
  f_if_ne (e_dx DX0_mergeRows_1 15 rfl) rfl,
  f_iconst (e_dx DX0_mergeRows_1 16 rfl) ⟨by decide, by decide⟩,
  f_g19 (e_dx DX0_mergeRows_1 17 rfl) rfl,
  f_iconst (e_dx DX0_mergeRows_1 18 rfl) ⟨by decide, by decide⟩,
  trivial,
  f_putn (e_dx DX0_mergeRows_1 19 rfl) fX0_240 (fun q hq => by cases hq; rfl) rfl (Or.inr (Or.inl rfl)) (by decide),
  trivial,
  f_g8 (e_dx DX0_mergeRows_1 20 rfl) ⟨by decide, by decide⟩,
  f_g19 (e_dx DX0_mergeRows_1 21 rfl) rfl,
  f_g8 (e_dx DX0_mergeRows_1 22 rfl) ⟨by decide, by decide⟩,
  f_g19 (e_dx DX0_mergeRows_1 23 rfl) rfl,
  ⟨(e_dx DX0_mergeRows_1 24 rfl), rfl⟩, trivial⟩
def lX0_mergeRows (c_X10_at : Nat → Int → Int → e_M → (Nat → Prop) → Prop) (c_X9_isThere : Nat → Int → e_M → (Int → Prop) → Prop) (c_X8_merge : Nat → Int → Int → Int → e_M → (e_M → Prop) → Prop) (c_X8_has : Nat → Int → e_M → (Int → Prop) → Prop) (c_X8_remove : Nat → Int → e_M → (e_M → Prop) → Prop) : List (Nat × f_Wt) := [(0, f_wm [(3, 10, 15), (1, 0, 0), (1, 0, 0)] (fun ar M R => c_X10_at (f_va (f_nth ar 0)) (f_vi (f_nth ar 1)) (f_vi (f_nth ar 2)) M (fun r => R (some (.inr (.inr (.inl (9, 14, r))))) M))), (1, f_wm [(3, 9, 14), (1, 0, 0)] (fun ar M R => c_X9_isThere (f_va (f_nth ar 0)) (f_vi (f_nth ar 1)) M (fun r => R (some (.inl r)) M))), (2, f_wm [(3, 8, 2), (1, 0, 0), (1, 0, 0), (1, 0, 0)] (fun ar M R => c_X8_merge (f_va (f_nth ar 0)) (f_vi (f_nth ar 1)) (f_vi (f_nth ar 2)) (f_vi (f_nth ar 3)) M (fun M => R none M))), (3, f_wm [(3, 8, 2), (1, 0, 0)] (fun ar M R => c_X8_has (f_va (f_nth ar 0)) (f_vi (f_nth ar 1)) M (fun r => R (some (.inl r)) M))), (4, f_wm [(3, 8, 2), (1, 0, 0)] (fun ar M R => c_X8_remove (f_va (f_nth ar 0)) (f_vi (f_nth ar 1)) M (fun M => R none M)))]
set_option maxRecDepth 20000 in
theorem BX0_mergeRows_3 {sh : Nat → Nat × Nat} {t : Nat} {rm : Nat × Nat × Nat} {cs : Nat × Nat} {R : f_Rt} {c_X10_at : Nat → Int → Int → e_M → (Nat → Prop) → Prop} {c_X9_isThere : Nat → Int → e_M → (Int → Prop) → Prop} {c_X8_merge : Nat → Int → Int → Int → e_M → (e_M → Prop) → Prop} {c_X8_has : Nat → Int → e_M → (Int → Prop) → Prop} {c_X8_remove : Nat → Int → e_M → (e_M → Prop) → Prop} {k13 : Int → Int → Int → Int → Int → e_M → Prop} {x1 : Int} {x2 : Int} {x3 : Int} {x4 : Int} {M : e_M} (C : f_Hy sh t yX0_mergeRows rm cs 7 (lX0_mergeRows c_X10_at c_X9_isThere c_X8_merge c_X8_has c_X8_remove) R) (h13 : ∀ (x1 : Int) (x2 : Int) (x3 : Int) (x4 : Int) (x5 : Int) (M : e_M), k13 x1 x2 x3 x4 x5 M → f_E sh t YX0_mergeRows rm cs (f_Q sh t R) 13 [.inr (.inr (.inl (0, 7, 4423))), .inl x1, .inl x2, .inl x3, .inl x4, .inl x5, .inr (.inr (.inr ()))] [] M) (h : VX0_mergeRows_3 c_X10_at c_X9_isThere c_X8_merge c_X8_has c_X8_remove k13 (fun M => R none M) x1 x2 x3 x4 M) : f_E sh t YX0_mergeRows rm cs (f_Q sh t R) 3 [.inr (.inr (.inl (0, 7, 4423))), .inl x1, .inl x2, .inl x3, .inl x4, .inr (.inr (.inr ())), .inr (.inr (.inr ()))] [] M :=
  f_go (KC := f_kc [(13, f_pl [(4433, 0, 7), (1, 0, 0), (1, 0, 0), (1, 0, 0), (1, 0, 0), (1, 0, 0), (0, 0, 0)] [] (fun ls st M => k13 (f_vi (f_nth ls 1)) (f_vi (f_nth ls 2)) (f_vi (f_nth ls 3)) (f_vi (f_nth ls 4)) (f_vi (f_nth ls 5)) M))]) C qX0_mergeRowsf (f_kc_cons (f_pl_ok rfl (fun ls st M h => h13 _ _ _ _ _ M h)) f_kc_nil) 71 3 h
set_option maxRecDepth 20000 in
theorem BX0_mergeRows_13 {sh : Nat → Nat × Nat} {t : Nat} {rm : Nat × Nat × Nat} {cs : Nat × Nat} {R : f_Rt} {c_X10_at : Nat → Int → Int → e_M → (Nat → Prop) → Prop} {c_X9_isThere : Nat → Int → e_M → (Int → Prop) → Prop} {c_X8_merge : Nat → Int → Int → Int → e_M → (e_M → Prop) → Prop} {c_X8_has : Nat → Int → e_M → (Int → Prop) → Prop} {c_X8_remove : Nat → Int → e_M → (e_M → Prop) → Prop} {k3 : Int → Int → Int → Int → e_M → Prop} {k129 : Int → Int → Int → Int → Int → e_M → Prop} {k126 : Int → Int → Int → Int → Int → Int → Nat → e_M → Prop} {x1 : Int} {x2 : Int} {x3 : Int} {x4 : Int} {x5 : Int} {M : e_M} (C : f_Hy sh t yX0_mergeRows rm cs 7 (lX0_mergeRows c_X10_at c_X9_isThere c_X8_merge c_X8_has c_X8_remove) R) (h3 : ∀ (x1 : Int) (x2 : Int) (x3 : Int) (x4 : Int) (M : e_M), k3 x1 x2 x3 x4 M → f_E sh t YX0_mergeRows rm cs (f_Q sh t R) 3 [.inr (.inr (.inl (0, 7, 4423))), .inl x1, .inl x2, .inl x3, .inl x4, .inr (.inr (.inr ())), .inr (.inr (.inr ()))] [] M) (h129 : ∀ (x1 : Int) (x2 : Int) (x3 : Int) (x4 : Int) (x5 : Int) (M : e_M), k129 x1 x2 x3 x4 x5 M → f_E sh t YX0_mergeRows rm cs (f_Q sh t R) 129 [.inr (.inr (.inl (0, 7, 4423))), .inl x1, .inl x2, .inl x3, .inl x4, .inl x5, .inr (.inr (.inr ()))] [] M) (h126 : ∀ (x1 : Int) (x2 : Int) (x3 : Int) (x4 : Int) (x5 : Int) (xs1 : Int) (as0 : Nat) (M : e_M), k126 x1 x2 x3 x4 x5 xs1 as0 M → f_E sh t YX0_mergeRows rm cs (f_Q sh t R) 126 [.inr (.inr (.inl (0, 7, 4423))), .inl x1, .inl x2, .inl x3, .inl x4, .inl x5, .inr (.inr (.inr ()))] [.inl xs1, .inr (.inr (.inl (9, 14, as0)))] M) (h : VX0_mergeRows_13 c_X10_at c_X9_isThere c_X8_merge c_X8_has c_X8_remove k3 k129 k126 (fun M => R none M) x1 x2 x3 x4 x5 M) : f_E sh t YX0_mergeRows rm cs (f_Q sh t R) 13 [.inr (.inr (.inl (0, 7, 4423))), .inl x1, .inl x2, .inl x3, .inl x4, .inl x5, .inr (.inr (.inr ()))] [] M :=
  f_go (KC := f_kc [(3, f_pl [(4433, 0, 7), (1, 0, 0), (1, 0, 0), (1, 0, 0), (1, 0, 0), (0, 0, 0), (0, 0, 0)] [] (fun ls st M => k3 (f_vi (f_nth ls 1)) (f_vi (f_nth ls 2)) (f_vi (f_nth ls 3)) (f_vi (f_nth ls 4)) M)), (129, f_pl [(4433, 0, 7), (1, 0, 0), (1, 0, 0), (1, 0, 0), (1, 0, 0), (1, 0, 0), (0, 0, 0)] [] (fun ls st M => k129 (f_vi (f_nth ls 1)) (f_vi (f_nth ls 2)) (f_vi (f_nth ls 3)) (f_vi (f_nth ls 4)) (f_vi (f_nth ls 5)) M)), (126, f_pl [(4433, 0, 7), (1, 0, 0), (1, 0, 0), (1, 0, 0), (1, 0, 0), (1, 0, 0), (0, 0, 0)] [(1, 0, 0), (3, 9, 14)] (fun ls st M => k126 (f_vi (f_nth ls 1)) (f_vi (f_nth ls 2)) (f_vi (f_nth ls 3)) (f_vi (f_nth ls 4)) (f_vi (f_nth ls 5)) (f_vi (f_nth st 0)) (f_va (f_nth st 1)) M))]) C qX0_mergeRowsf (f_kc_cons (f_pl_ok rfl (fun ls st M h => h3 _ _ _ _ M h)) (f_kc_cons (f_pl_ok rfl (fun ls st M h => h129 _ _ _ _ _ M h)) (f_kc_cons (f_pl_ok rfl (fun ls st M h => h126 _ _ _ _ _ _ _ M h)) f_kc_nil))) 71 9 h
set_option maxRecDepth 20000 in
theorem BX0_mergeRows_126 {sh : Nat → Nat × Nat} {t : Nat} {rm : Nat × Nat × Nat} {cs : Nat × Nat} {R : f_Rt} {c_X10_at : Nat → Int → Int → e_M → (Nat → Prop) → Prop} {c_X9_isThere : Nat → Int → e_M → (Int → Prop) → Prop} {c_X8_merge : Nat → Int → Int → Int → e_M → (e_M → Prop) → Prop} {c_X8_has : Nat → Int → e_M → (Int → Prop) → Prop} {c_X8_remove : Nat → Int → e_M → (e_M → Prop) → Prop} {k129 : Int → Int → Int → Int → Int → e_M → Prop} {x1 : Int} {x2 : Int} {x3 : Int} {x4 : Int} {x5 : Int} {xs1 : Int} {as0 : Nat} {M : e_M} (C : f_Hy sh t yX0_mergeRows rm cs 7 (lX0_mergeRows c_X10_at c_X9_isThere c_X8_merge c_X8_has c_X8_remove) R) (h129 : ∀ (x1 : Int) (x2 : Int) (x3 : Int) (x4 : Int) (x5 : Int) (M : e_M), k129 x1 x2 x3 x4 x5 M → f_E sh t YX0_mergeRows rm cs (f_Q sh t R) 129 [.inr (.inr (.inl (0, 7, 4423))), .inl x1, .inl x2, .inl x3, .inl x4, .inl x5, .inr (.inr (.inr ()))] [] M) (h : VX0_mergeRows_126 c_X10_at c_X9_isThere c_X8_merge c_X8_has c_X8_remove k129 (fun M => R none M) x1 x2 x3 x4 x5 xs1 as0 M) : f_E sh t YX0_mergeRows rm cs (f_Q sh t R) 126 [.inr (.inr (.inl (0, 7, 4423))), .inl x1, .inl x2, .inl x3, .inl x4, .inl x5, .inr (.inr (.inr ()))] [.inl xs1, .inr (.inr (.inl (9, 14, as0)))] M :=
  f_go (KC := f_kc [(129, f_pl [(4433, 0, 7), (1, 0, 0), (1, 0, 0), (1, 0, 0), (1, 0, 0), (1, 0, 0), (0, 0, 0)] [] (fun ls st M => k129 (f_vi (f_nth ls 1)) (f_vi (f_nth ls 2)) (f_vi (f_nth ls 3)) (f_vi (f_nth ls 4)) (f_vi (f_nth ls 5)) M))]) C qX0_mergeRowsf (f_kc_cons (f_pl_ok rfl (fun ls st M h => h129 _ _ _ _ _ M h)) f_kc_nil) 71 62 h
set_option maxRecDepth 20000 in
theorem BX0_mergeRows_129 {sh : Nat → Nat × Nat} {t : Nat} {rm : Nat × Nat × Nat} {cs : Nat × Nat} {R : f_Rt} {c_X10_at : Nat → Int → Int → e_M → (Nat → Prop) → Prop} {c_X9_isThere : Nat → Int → e_M → (Int → Prop) → Prop} {c_X8_merge : Nat → Int → Int → Int → e_M → (e_M → Prop) → Prop} {c_X8_has : Nat → Int → e_M → (Int → Prop) → Prop} {c_X8_remove : Nat → Int → e_M → (e_M → Prop) → Prop} {k13 : Int → Int → Int → Int → Int → e_M → Prop} {x1 : Int} {x2 : Int} {x3 : Int} {x4 : Int} {x5 : Int} {M : e_M} (C : f_Hy sh t yX0_mergeRows rm cs 7 (lX0_mergeRows c_X10_at c_X9_isThere c_X8_merge c_X8_has c_X8_remove) R) (h13 : ∀ (x1 : Int) (x2 : Int) (x3 : Int) (x4 : Int) (x5 : Int) (M : e_M), k13 x1 x2 x3 x4 x5 M → f_E sh t YX0_mergeRows rm cs (f_Q sh t R) 13 [.inr (.inr (.inl (0, 7, 4423))), .inl x1, .inl x2, .inl x3, .inl x4, .inl x5, .inr (.inr (.inr ()))] [] M) (h : VX0_mergeRows_129 c_X10_at c_X9_isThere c_X8_merge c_X8_has c_X8_remove k13 (fun M => R none M) x1 x2 x3 x4 x5 M) : f_E sh t YX0_mergeRows rm cs (f_Q sh t R) 129 [.inr (.inr (.inl (0, 7, 4423))), .inl x1, .inl x2, .inl x3, .inl x4, .inl x5, .inr (.inr (.inr ()))] [] M :=
  f_go (KC := f_kc [(13, f_pl [(4433, 0, 7), (1, 0, 0), (1, 0, 0), (1, 0, 0), (1, 0, 0), (1, 0, 0), (0, 0, 0)] [] (fun ls st M => k13 (f_vi (f_nth ls 1)) (f_vi (f_nth ls 2)) (f_vi (f_nth ls 3)) (f_vi (f_nth ls 4)) (f_vi (f_nth ls 5)) M))]) C qX0_mergeRowsf (f_kc_cons (f_pl_ok rfl (fun ls st M h => h13 _ _ _ _ _ M h)) f_kc_nil) 71 64 h
set_option maxRecDepth 20000 in
theorem BX0_mergeRows {sh : Nat → Nat × Nat} {t : Nat} {rm : Nat × Nat × Nat} {cs : Nat × Nat} {R : f_Rt} {c_X10_at : Nat → Int → Int → e_M → (Nat → Prop) → Prop} {c_X9_isThere : Nat → Int → e_M → (Int → Prop) → Prop} {c_X8_merge : Nat → Int → Int → Int → e_M → (e_M → Prop) → Prop} {c_X8_has : Nat → Int → e_M → (Int → Prop) → Prop} {c_X8_remove : Nat → Int → e_M → (e_M → Prop) → Prop} {k3 : Int → Int → Int → Int → e_M → Prop} {x1 : Int} {x2 : Int} {x3 : Int} {M : e_M} (C : f_Hy sh t yX0_mergeRows rm cs 7 (lX0_mergeRows c_X10_at c_X9_isThere c_X8_merge c_X8_has c_X8_remove) R) (h3 : ∀ (x1 : Int) (x2 : Int) (x3 : Int) (x4 : Int) (M : e_M), k3 x1 x2 x3 x4 M → f_E sh t YX0_mergeRows rm cs (f_Q sh t R) 3 [.inr (.inr (.inl (0, 7, 4423))), .inl x1, .inl x2, .inl x3, .inl x4, .inr (.inr (.inr ())), .inr (.inr (.inr ()))] [] M) (h : VX0_mergeRows c_X10_at c_X9_isThere c_X8_merge c_X8_has c_X8_remove k3 (fun M => R none M) x1 x2 x3 M) : f_E sh t YX0_mergeRows rm cs (f_Q sh t R) 0 [.inr (.inr (.inl (0, 7, 4423))), .inl x1, .inl x2, .inl x3, .inr (.inr (.inr ())), .inr (.inr (.inr ())), .inr (.inr (.inr ()))] [] M :=
  f_go (KC := f_kc [(3, f_pl [(4433, 0, 7), (1, 0, 0), (1, 0, 0), (1, 0, 0), (1, 0, 0), (0, 0, 0), (0, 0, 0)] [] (fun ls st M => k3 (f_vi (f_nth ls 1)) (f_vi (f_nth ls 2)) (f_vi (f_nth ls 3)) (f_vi (f_nth ls 4)) M))]) C qX0_mergeRowsf (f_kc_cons (f_pl_ok rfl (fun ls st M h => h3 _ _ _ _ M h)) f_kc_nil) 71 0 h
def WX0_mergeRows_129 (H3 : Int → Int → Int → Int → e_M → Prop) (H13 : Int → Int → Int → Int → Int → e_M → Prop) (Q : e_M → Prop) (x1 : Int) (x2 : Int) (x3 : Int) (x4 : Int) (x5 : Int) (M : e_M) : Prop :=
  VX0_mergeRows_129 WX10_at WX9_isThere WX8_merge WX8_has WX8_remove H13 Q x1 x2 x3 x4 x5 M
def WX0_mergeRows_126 (H3 : Int → Int → Int → Int → e_M → Prop) (H13 : Int → Int → Int → Int → Int → e_M → Prop) (Q : e_M → Prop) (x1 : Int) (x2 : Int) (x3 : Int) (x4 : Int) (x5 : Int) (xs1 : Int) (as0 : Nat) (M : e_M) : Prop :=
  VX0_mergeRows_126 WX10_at WX9_isThere WX8_merge WX8_has WX8_remove (WX0_mergeRows_129 H3 H13 Q) Q x1 x2 x3 x4 x5 xs1 as0 M
def WX0_mergeRows_13 (H3 : Int → Int → Int → Int → e_M → Prop) (Q : e_M → Prop) : Nat → Int → Int → Int → Int → Int → e_M → Prop
  | 0, _, _, _, _, _, _ => False
  | n + 1, x1, x2, x3, x4, x5, M =>
    VX0_mergeRows_13 WX10_at WX9_isThere WX8_merge WX8_has WX8_remove H3 (WX0_mergeRows_129 H3 (WX0_mergeRows_13 H3 Q n) Q) (WX0_mergeRows_126 H3 (WX0_mergeRows_13 H3 Q n) Q) Q x1 x2 x3 x4 x5 M
def WX0_mergeRows_3 (Q : e_M → Prop) : Nat → Int → Int → Int → Int → e_M → Prop
  | 0, _, _, _, _, _ => False
  | n + 1, x1, x2, x3, x4, M =>
    VX0_mergeRows_3 WX10_at WX9_isThere WX8_merge WX8_has WX8_remove (fun x1 x2 x3 x4 x5 M => ∃ j, WX0_mergeRows_13 (WX0_mergeRows_3 Q n) Q j x1 x2 x3 x4 x5 M) Q x1 x2 x3 x4 M
def WX0_mergeRows (x1 : Int) (x2 : Int) (x3 : Int) (M : e_M) (Q : e_M → Prop) : Prop :=
  VX0_mergeRows WX10_at WX9_isThere WX8_merge WX8_has WX8_remove (fun x1 x2 x3 x4 M => ∃ j, WX0_mergeRows_3 Q j x1 x2 x3 x4 M) Q x1 x2 x3 M
theorem PX0_mergeRows_129 {sh : Nat → Nat × Nat} {t : Nat} {rm : Nat × Nat × Nat} {cs : Nat × Nat} {R : f_Rt} {H3 : Int → Int → Int → Int → e_M → Prop} {H13 : Int → Int → Int → Int → Int → e_M → Prop} {x1 : Int} {x2 : Int} {x3 : Int} {x4 : Int} {x5 : Int} {M : e_M} (C : f_Hy sh t yX0_mergeRows rm cs 7 (lX0_mergeRows WX10_at WX9_isThere WX8_merge WX8_has WX8_remove) R) (g3 : ∀ (x1 : Int) (x2 : Int) (x3 : Int) (x4 : Int) (M : e_M), H3 x1 x2 x3 x4 M → f_E sh t YX0_mergeRows rm cs (f_Q sh t R) 3 [.inr (.inr (.inl (0, 7, 4423))), .inl x1, .inl x2, .inl x3, .inl x4, .inr (.inr (.inr ())), .inr (.inr (.inr ()))] [] M) (g13 : ∀ (x1 : Int) (x2 : Int) (x3 : Int) (x4 : Int) (x5 : Int) (M : e_M), H13 x1 x2 x3 x4 x5 M → f_E sh t YX0_mergeRows rm cs (f_Q sh t R) 13 [.inr (.inr (.inl (0, 7, 4423))), .inl x1, .inl x2, .inl x3, .inl x4, .inl x5, .inr (.inr (.inr ()))] [] M) (h : WX0_mergeRows_129 H3 H13 (fun M => R none M) x1 x2 x3 x4 x5 M) : f_E sh t YX0_mergeRows rm cs (f_Q sh t R) 129 [.inr (.inr (.inl (0, 7, 4423))), .inl x1, .inl x2, .inl x3, .inl x4, .inl x5, .inr (.inr (.inr ()))] [] M :=
  BX0_mergeRows_129 C g13 h
theorem PX0_mergeRows_126 {sh : Nat → Nat × Nat} {t : Nat} {rm : Nat × Nat × Nat} {cs : Nat × Nat} {R : f_Rt} {H3 : Int → Int → Int → Int → e_M → Prop} {H13 : Int → Int → Int → Int → Int → e_M → Prop} {x1 : Int} {x2 : Int} {x3 : Int} {x4 : Int} {x5 : Int} {xs1 : Int} {as0 : Nat} {M : e_M} (C : f_Hy sh t yX0_mergeRows rm cs 7 (lX0_mergeRows WX10_at WX9_isThere WX8_merge WX8_has WX8_remove) R) (g3 : ∀ (x1 : Int) (x2 : Int) (x3 : Int) (x4 : Int) (M : e_M), H3 x1 x2 x3 x4 M → f_E sh t YX0_mergeRows rm cs (f_Q sh t R) 3 [.inr (.inr (.inl (0, 7, 4423))), .inl x1, .inl x2, .inl x3, .inl x4, .inr (.inr (.inr ())), .inr (.inr (.inr ()))] [] M) (g13 : ∀ (x1 : Int) (x2 : Int) (x3 : Int) (x4 : Int) (x5 : Int) (M : e_M), H13 x1 x2 x3 x4 x5 M → f_E sh t YX0_mergeRows rm cs (f_Q sh t R) 13 [.inr (.inr (.inl (0, 7, 4423))), .inl x1, .inl x2, .inl x3, .inl x4, .inl x5, .inr (.inr (.inr ()))] [] M) (h : WX0_mergeRows_126 H3 H13 (fun M => R none M) x1 x2 x3 x4 x5 xs1 as0 M) : f_E sh t YX0_mergeRows rm cs (f_Q sh t R) 126 [.inr (.inr (.inl (0, 7, 4423))), .inl x1, .inl x2, .inl x3, .inl x4, .inl x5, .inr (.inr (.inr ()))] [.inl xs1, .inr (.inr (.inl (9, 14, as0)))] M :=
  BX0_mergeRows_126 C (fun x1 x2 x3 x4 x5 M h => PX0_mergeRows_129 C g3 g13 h) h
theorem PX0_mergeRows_13 {sh : Nat → Nat × Nat} {t : Nat} {rm : Nat × Nat × Nat} {cs : Nat × Nat} {R : f_Rt} {H3 : Int → Int → Int → Int → e_M → Prop} (C : f_Hy sh t yX0_mergeRows rm cs 7 (lX0_mergeRows WX10_at WX9_isThere WX8_merge WX8_has WX8_remove) R) (g3 : ∀ (x1 : Int) (x2 : Int) (x3 : Int) (x4 : Int) (M : e_M), H3 x1 x2 x3 x4 M → f_E sh t YX0_mergeRows rm cs (f_Q sh t R) 3 [.inr (.inr (.inl (0, 7, 4423))), .inl x1, .inl x2, .inl x3, .inl x4, .inr (.inr (.inr ())), .inr (.inr (.inr ()))] [] M) : ∀ (n : Nat) (x1 : Int) (x2 : Int) (x3 : Int) (x4 : Int) (x5 : Int) (M : e_M), WX0_mergeRows_13 H3 (fun M => R none M) n x1 x2 x3 x4 x5 M → f_E sh t YX0_mergeRows rm cs (f_Q sh t R) 13 [.inr (.inr (.inl (0, 7, 4423))), .inl x1, .inl x2, .inl x3, .inl x4, .inl x5, .inr (.inr (.inr ()))] [] M := by
  intro n
  induction n with
  | zero => intro x1 x2 x3 x4 x5 M h; exact h.elim
  | succ n ih => intro x1 x2 x3 x4 x5 M h; exact BX0_mergeRows_13 C g3 (fun x1 x2 x3 x4 x5 M h => PX0_mergeRows_129 C g3 ih h) (fun x1 x2 x3 x4 x5 xs1 as0 M h => PX0_mergeRows_126 C g3 ih h) h
theorem PX0_mergeRows_3 {sh : Nat → Nat × Nat} {t : Nat} {rm : Nat × Nat × Nat} {cs : Nat × Nat} {R : f_Rt} (C : f_Hy sh t yX0_mergeRows rm cs 7 (lX0_mergeRows WX10_at WX9_isThere WX8_merge WX8_has WX8_remove) R) : ∀ (n : Nat) (x1 : Int) (x2 : Int) (x3 : Int) (x4 : Int) (M : e_M), WX0_mergeRows_3 (fun M => R none M) n x1 x2 x3 x4 M → f_E sh t YX0_mergeRows rm cs (f_Q sh t R) 3 [.inr (.inr (.inl (0, 7, 4423))), .inl x1, .inl x2, .inl x3, .inl x4, .inr (.inr (.inr ())), .inr (.inr (.inr ()))] [] M := by
  intro n
  induction n with
  | zero => intro x1 x2 x3 x4 M h; exact h.elim
  | succ n ih => intro x1 x2 x3 x4 M h; exact BX0_mergeRows_3 C (fun x1 x2 x3 x4 x5 M ⟨j, h⟩ => PX0_mergeRows_13 C ih j _ _ _ _ _ _ h) h
theorem PX0_mergeRows {sh : Nat → Nat × Nat} {t : Nat} {rm : Nat × Nat × Nat} {cs : Nat × Nat} {R : f_Rt} {x1 : Int} {x2 : Int} {x3 : Int} {M : e_M} (C : f_Hy sh t yX0_mergeRows rm cs 7 (lX0_mergeRows WX10_at WX9_isThere WX8_merge WX8_has WX8_remove) R) (h : WX0_mergeRows x1 x2 x3 M (fun M => R none M)) : f_E sh t YX0_mergeRows rm cs (f_Q sh t R) 0 [.inr (.inr (.inl (0, 7, 4423))), .inl x1, .inl x2, .inl x3, .inr (.inr (.inr ())), .inr (.inr (.inr ())), .inr (.inr (.inr ()))] [] M :=
  BX0_mergeRows C (fun x1 x2 x3 x4 M ⟨j, h⟩ => PX0_mergeRows_3 C j _ _ _ _ _ h) h
def wX0_mergeRows : f_Wt := f_wm [(4433, 0, 7), (1, 0, 0), (1, 0, 0), (1, 0, 0)] (fun ar M R => WX0_mergeRows (f_vi (f_nth ar 1)) (f_vi (f_nth ar 2)) (f_vi (f_nth ar 3)) M (fun M => R none M))
theorem TX0_mergeRows {sh : Nat → Nat × Nat} {t : Nat} : f_Mt sh t YX0_mergeRows 7 (wX0_mergeRows) :=
  f_Mt_of (k := 3) (Nat.le_of_ble_eq_true rfl) rfl rfl (fun ar M R rm cs h1 h2 h3 hX h => PX0_mergeRows ⟨Nat.le_of_ble_eq_true rfl, h1, h2, h3, ⟨(f_Mt.up (Nat.le_of_ble_eq_true rfl) TX10_at), (f_Mt.up (Nat.le_of_ble_eq_true rfl) TX9_isThere), (f_Mt.up (Nat.le_of_ble_eq_true rfl) TX8_merge), (f_Mt.up (Nat.le_of_ble_eq_true rfl) TX8_has), (f_Mt.up (Nat.le_of_ble_eq_true rfl) TX8_remove), trivial⟩, hX⟩ h)
def VX0_join (c_X10_lot : Nat → Int → e_M → (Nat → Prop) → Prop) (c_X0_areOwnersAble : Int → e_M → (Int → Prop) → Prop) (c_X4_hasSameOwners : Nat → Nat → e_M → (Int → Prop) → Prop) (c_X0_isBarred : Int → Int → e_M → (Int → Prop) → Prop) (c_X8_isSame : Nat → Nat → e_M → (Int → Prop) → Prop) (c_X0_areOnBoth : Int → Int → Int → e_M → (Int → Prop) → Prop) (c_X5_join : Nat → Nat → e_M → (Int → e_M → Prop) → Prop) (c_X10_isFull : Nat → Int → e_M → (Int → Prop) → Prop) (c_X0_makeLot : Int → Nat → Nat → e_M → (Int → e_M → Prop) → Prop) (c_X0_mergeRows : Int → Int → Int → e_M → (e_M → Prop) → Prop) (Q : Int → e_M → Prop) (M : e_M) : Prop :=
  ((0 ≤ (0 : Int) ∧ (0 : Int) < 8) ∧ ((0 ≤ (1 : Int) ∧ (1 : Int) < 8) ∧ (c_X10_lot ((M 4423 0).toNat) (M 4425 ((0 : Int).toNat)) M (fun r1 => (c_X10_lot ((M 4423 0).toNat) (M 4425 ((1 : Int).toNat)) M (fun r2 => ((¬ (M 4425 ((0 : Int).toNat)) = (M 4425 ((1 : Int).toNat)) → (c_X0_areOwnersAble (M 4425 ((0 : Int).toNat)) M (fun r3 => ((r3 = 0 → (Q 2 M)) ∧ (¬ r3 = 0 → (c_X0_areOwnersAble (M 4425 ((1 : Int).toNat)) M (fun r4 => ((¬ r4 = 0 → (c_X4_hasSameOwners r1 r2 M (fun r5 => ((¬ r5 = 0 → (c_X0_isBarred (M 4425 ((0 : Int).toNat)) (-1) M (fun r6 => ((¬ r6 = 0 → (Q 4 M)) ∧ (r6 = 0 → (c_X0_isBarred (M 4425 ((1 : Int).toNat)) (-1) M (fun r7 => ((r7 = 0 → (c_X8_isSame (r1 + 4) (r2 + 4) M (fun r8 => ((r8 = 0 → (Q 5 M)) ∧ (¬ r8 = 0 → (c_X0_areOnBoth 4 (M 4425 ((0 : Int).toNat)) (M 4425 ((1 : Int).toNat)) M (fun r9 => ((r9 = 0 → (Q 5 M)) ∧ (¬ r9 = 0 → (c_X0_areOnBoth 6 (M 4425 ((0 : Int).toNat)) (M 4425 ((1 : Int).toNat)) M (fun r10 => ((¬ r10 = 0 → (c_X5_join (r1 + 1) (r2 + 1) M (fun r11 M12 => ((¬ r11 = 0 → (c_X10_isFull ((M12 4423 0).toNat) 0 M12 (fun r13 => ((r13 = 0 → ((0 ≤ (2 : Int) ∧ (2 : Int) < 8) ∧ (c_X0_makeLot (M12 ((M12 4423 1).toNat + 1) ((2 : Int).toNat)) r1 4433 M12 (fun r14 M15 => (((1 : Int) = 0 ∨ (1 : Int) = 1) ∧ (∀ M16 : e_M, M16 = e_up M15 r1 1 1 → (((1 : Int) = 0 ∨ (1 : Int) = 1) ∧ (∀ M17 : e_M, M17 = e_up M16 r2 1 1 → (c_X0_mergeRows (M 4425 ((0 : Int).toNat)) (M 4425 ((1 : Int).toNat)) r14 M17 (fun M18 => (Q 0 M18))))))))))) ∧ (¬ r13 = 0 → (Q 7 M12)))))) ∧ (r11 = 0 → (Q 3 M12)))))) ∧ (r10 = 0 → (Q 5 M)))))))))))))) ∧ (¬ r7 = 0 → (Q 4 M)))))))))) ∧ (r5 = 0 → (Q 6 M)))))) ∧ (r4 = 0 → (Q 2 M)))))))))) ∧ ((M 4425 ((0 : Int).toNat)) = (M 4425 ((1 : Int).toNat)) → (Q 1 M)))))))))
def yX0_join (i : Nat) : e_Y := x_get YX0_join [YX10_lot, YX0_areOwnersAble, YX4_hasSameOwners, YX0_isBarred, YX8_isSame, YX0_areOnBoth, YX5_join, YX10_isFull, YX0_makeLot, YX0_mergeRows] i
def pX0_joinf : List x_I := [(0, 4, 1, 0, 0, 0, []), (1, 25, 0, 4, 4, 0, [(0, 20, 8), (0, 1, 2)]), (4, 0, 1, 0, 0, 0, []), (5, 27, 0, 0, 0, 0, []), (6, 5, 1, 1, 0, 0, []), (7, 4, 1, 0, 0, 0, []), (8, 25, 0, 4, 4, 0, [(0, 20, 8), (0, 1, 2)]), (11, 0, 1, 0, 0, 1, []), (12, 27, 0, 0, 0, 0, []), (13, 5, 1, 2, 0, 0, []), (14, 4, 1, 0, 0, 0, []), (15, 25, 0, 0, 4, 0, [(0, 10, 15), (0, 0, 0)]), (18, 2, 1, 1, 0, 0, []), (19, 40, 0, 2, 12, 0, []), (22, 7, 1, 3, 0, 0, []), (23, 4, 1, 0, 0, 0, []), (24, 25, 0, 0, 4, 0, [(0, 10, 15), (0, 0, 0)]), (27, 2, 1, 2, 0, 0, []), (28, 40, 0, 2, 12, 0, []), (31, 7, 2, 4, 0, 0, []), (33, 2, 1, 1, 0, 0, []), (34, 2, 1, 2, 0, 0, []), (35, 18, 40, 1, 26, 0, []), (38, 0, 1, 0, 0, 1, []), (39, 41, 0, 0, 0, 0, []), (40, 4, 1, 0, 0, 0, []), (41, 2, 1, 1, 0, 0, []), (42, 40, 1, 2, 2, 0, []), (45, 17, 56, 0, 34, 0, []), (48, 4, 1, 0, 0, 0, []), (49, 2, 1, 2, 0, 0, []), (50, 40, 1, 2, 2, 0, []), (53, 17, 58, 1, 36, 0, []), (56, 0, 1, 0, 0, 2, []), (57, 41, 0, 0, 0, 0, []), (58, 4, 1, 3, 0, 0, []), (59, 4, 2, 4, 0, 0, []), (61, 40, 2, 2, 6, 0, []), (64, 17, 70, 1, 42, 0, []), (67, 0, 2, 0, 0, 6, []), (69, 41, 0, 0, 0, 0, []), (70, 4, 1, 0, 0, 0, []), (71, 2, 1, 1, 0, 0, []), (72, 0, 1, 0, 0, (-1), []), (73, 40, 3, 3, 2, 0, []), (76, 17, 88, 1, 52, 0, []), (79, 4, 1, 0, 0, 0, []), (80, 2, 1, 2, 0, 0, []), (81, 0, 1, 0, 0, (-1), []), (82, 40, 3, 3, 2, 0, []), (85, 17, 90, 0, 54, 0, []), (88, 0, 1, 0, 0, 4, []), (89, 41, 0, 0, 0, 0, []), (90, 4, 1, 3, 0, 0, []), (91, 25, 4, 4, 4, 0, [(0, 8, 2), (0, 1, 4)]), (94, 4, 2, 4, 0, 0, []), (96, 25, 4, 4, 4, 0, [(0, 8, 2), (0, 1, 4)]), (99, 40, 4, 2, 10, 0, []), (102, 17, 126, 0, 72, 0, []), (105, 4, 1, 0, 0, 0, []), (106, 0, 1, 0, 0, 4, []), (107, 2, 1, 1, 0, 0, []), (108, 2, 1, 2, 0, 0, []), (109, 40, 5, 4, 2, 0, []), (112, 17, 126, 0, 72, 0, []), (115, 4, 1, 0, 0, 0, []), (116, 0, 2, 0, 0, 6, []), (118, 2, 1, 1, 0, 0, []), (119, 2, 1, 2, 0, 0, []), (120, 40, 5, 4, 2, 0, []), (123, 17, 128, 1, 74, 0, []), (126, 0, 1, 0, 0, 5, []), (127, 41, 0, 0, 0, 0, []), (128, 4, 1, 0, 0, 0, []), (129, 25, 0, 5, 4, 0, [(0, 5, 12), (0, 1, 3)]), (132, 4, 1, 3, 0, 0, []), (133, 25, 4, 3, 4, 0, [(0, 3, 3), (0, 1, 1)]), (136, 4, 2, 4, 0, 0, []), (138, 25, 4, 3, 4, 0, [(0, 3, 3), (0, 1, 1)]), (141, 40, 6, 3, 7, 0, []), (144, 17, 149, 1, 84, 0, []), (147, 0, 1, 0, 0, 3, []), (148, 41, 0, 0, 0, 0, []), (149, 4, 1, 0, 0, 0, []), (150, 25, 0, 0, 4, 0, [(0, 10, 15), (0, 0, 0)]), (153, 0, 1, 0, 0, 0, []), (154, 40, 7, 2, 12, 0, []), (157, 17, 163, 0, 91, 0, []), (160, 0, 2, 0, 0, 7, []), (162, 41, 0, 0, 0, 0, []), (163, 4, 1, 0, 0, 0, []), (164, 4, 1, 0, 0, 0, []), (165, 25, 0, 1, 4, 0, [(0, 2, 19), (0, 0, 0)]), (168, 25, 2, 5, 4, 0, [(0, 23, 8), (0, 1, 1)]), (171, 0, 1, 0, 0, 2, []), (172, 27, 0, 1, 0, 0, []), (173, 4, 1, 3, 0, 0, []), (174, 4, 1, 0, 0, 0, []), (175, 25, 0, 5, 4, 0, [(0, 5, 12), (0, 1, 3)]), (178, 25, 5, 2, 4, 0, [(0, 3, 3), (0, 1, 7)]), (181, 40, 8, 4, 2, 0, []), (184, 5, 2, 5, 0, 0, []), (186, 4, 1, 3, 0, 0, []), (187, 0, 1, 0, 0, 1, []), (188, 26, 4, 1, 1, 0, []), (191, 4, 2, 4, 0, 0, []), (193, 0, 1, 0, 0, 1, []), (194, 26, 4, 1, 1, 0, []), (197, 4, 1, 0, 0, 0, []), (198, 2, 1, 1, 0, 0, []), (199, 2, 1, 2, 0, 0, []), (200, 2, 2, 5, 0, 0, []), (202, 40, 9, 4, 2, 0, []), (205, 0, 1, 0, 0, 0, []), (206, 41, 0, 0, 0, 0, [])]
set_option maxRecDepth 20000 in
theorem qX0_joinf : f_all yX0_join YX0_join pX0_joinf :=
  ⟨f_aload_n (n := 0) (e_dx DX0_join_0 0 rfl) rfl,
  f_getA (e_dx DX0_join_0 1 rfl) fX0_19 rfl (by decide) (Nat.le_of_ble_eq_true rfl) rfl (by decide),
  f_iconst (e_dx DX0_join_0 2 rfl) ⟨by decide, by decide⟩,
  f_iaload (e_dx DX0_join_0 3 rfl),
  f_istore_n (n := 1) (e_dx DX0_join_0 4 rfl) rfl (by decide),
  f_aload_n (n := 0) (e_dx DX0_join_0 5 rfl) rfl,
  f_getA (e_dx DX0_join_0 6 rfl) fX0_19 rfl (by decide) (Nat.le_of_ble_eq_true rfl) rfl (by decide),
  f_iconst (e_dx DX0_join_0 7 rfl) ⟨by decide, by decide⟩,
  f_iaload (e_dx DX0_join_0 8 rfl),
  f_istore_n (n := 2) (e_dx DX0_join_0 9 rfl) rfl (by decide),
  f_aload_n (n := 0) (e_dx DX0_join_0 10 rfl) rfl,
  f_getA (e_dx DX0_join_0 11 rfl) fX0_36 rfl (by decide) (Nat.le_of_ble_eq_true rfl) rfl (by decide),
  f_iload_n (n := 1) (e_dx DX0_join_0 12 rfl) rfl,
  x_callV (e_dx DX0_join_0 13 rfl) mwX10_lot vwX10_lot cX0_161 rfl,
  f_astore_n (n := 3) (e_dx DX0_join_0 14 rfl) rfl (by decide),
  f_aload_n (n := 0) (e_dx DX0_join_0 15 rfl) rfl,
  f_getA (e_dx DX0_join_0 16 rfl) fX0_36 rfl (by decide) (Nat.le_of_ble_eq_true rfl) rfl (by decide),
  f_iload_n (n := 2) (e_dx DX0_join_0 17 rfl) rfl,
  x_callV (e_dx DX0_join_0 18 rfl) mwX10_lot vwX10_lot cX0_161 rfl,
  f_astore (e_dx DX0_join_0 19 rfl) (by decide),
  f_iload_n (n := 1) (e_dx DX0_join_0 20 rfl) rfl,
  f_iload_n (n := 2) (e_dx DX0_join_0 21 rfl) rfl,
  f_icmp_ne (e_dx DX0_join_0 22 rfl) rfl,
  f_iconst (e_dx DX0_join_0 23 rfl) ⟨by decide, by decide⟩,
  ⟨(e_dx DX0_join_0 24 rfl), rfl⟩,
  f_aload_n (n := 0) (e_dx DX0_join_0 25 rfl) rfl,
  f_iload_n (n := 1) (e_dx DX0_join_0 26 rfl) rfl,
  x_callV (e_dx DX0_join_0 27 rfl) mwX0_areOwnersAble vwX0_areOwnersAble cX0_296 rfl,
  f_if_eq (e_dx DX0_join_0 28 rfl) rfl,
  f_aload_n (n := 0) (e_dx DX0_join_0 29 rfl) rfl,
  f_iload_n (n := 2) (e_dx DX0_join_0 30 rfl) rfl,
  x_callV (e_dx DX0_join_0 31 rfl) mwX0_areOwnersAble vwX0_areOwnersAble cX0_296 rfl,
  f_if_ne (e_dx DX0_join_0 32 rfl) rfl,
  f_iconst (e_dx DX0_join_0 33 rfl) ⟨by decide, by decide⟩,
  ⟨(e_dx DX0_join_0 34 rfl), rfl⟩,
  f_aload_n (n := 3) (e_dx DX0_join_0 35 rfl) rfl,
  f_aload (e_dx DX0_join_0 36 rfl),
  x_callV (e_dx DX0_join_0 37 rfl) mwX4_hasSameOwners vwX4_hasSameOwners cX0_353 rfl,
  f_if_ne (e_dx DX0_join_0 38 rfl) rfl,
  f_bipush (e_dx DX0_join_0 39 rfl) ⟨by decide, by decide⟩,
  ⟨(e_dx DX0_join_1 0 rfl), rfl⟩,
  f_aload_n (n := 0) (e_dx DX0_join_1 1 rfl) rfl,
  f_iload_n (n := 1) (e_dx DX0_join_1 2 rfl) rfl,
  f_iconst (e_dx DX0_join_1 3 rfl) ⟨by decide, by decide⟩,
  x_callV (e_dx DX0_join_1 4 rfl) mwX0_isBarred vwX0_isBarred cX0_275 rfl,
  f_if_ne (e_dx DX0_join_1 5 rfl) rfl,
  f_aload_n (n := 0) (e_dx DX0_join_1 6 rfl) rfl,
  f_iload_n (n := 2) (e_dx DX0_join_1 7 rfl) rfl,
  f_iconst (e_dx DX0_join_1 8 rfl) ⟨by decide, by decide⟩,
  x_callV (e_dx DX0_join_1 9 rfl) mwX0_isBarred vwX0_isBarred cX0_275 rfl,
  f_if_eq (e_dx DX0_join_1 10 rfl) rfl,
  f_iconst (e_dx DX0_join_1 11 rfl) ⟨by decide, by decide⟩,
  ⟨(e_dx DX0_join_1 12 rfl), rfl⟩,
  f_aload_n (n := 3) (e_dx DX0_join_1 13 rfl) rfl,
  f_getA (e_dx DX0_join_1 14 rfl) fX0_343 rfl (by decide) (Nat.le_of_ble_eq_true rfl) rfl (by decide),
  f_aload (e_dx DX0_join_1 15 rfl),
  f_getA (e_dx DX0_join_1 16 rfl) fX0_343 rfl (by decide) (Nat.le_of_ble_eq_true rfl) rfl (by decide),
  x_callV (e_dx DX0_join_1 17 rfl) mwX8_isSame vwX8_isSame cX0_357 rfl,
  f_if_eq (e_dx DX0_join_1 18 rfl) rfl,
  f_aload_n (n := 0) (e_dx DX0_join_1 19 rfl) rfl,
  f_iconst (e_dx DX0_join_1 20 rfl) ⟨by decide, by decide⟩,
  f_iload_n (n := 1) (e_dx DX0_join_1 21 rfl) rfl,
  f_iload_n (n := 2) (e_dx DX0_join_1 22 rfl) rfl,
  x_callV (e_dx DX0_join_1 23 rfl) mwX0_areOnBoth vwX0_areOnBoth cX0_361 rfl,
  f_if_eq (e_dx DX0_join_1 24 rfl) rfl,
  f_aload_n (n := 0) (e_dx DX0_join_1 25 rfl) rfl,
  f_bipush (e_dx DX0_join_1 26 rfl) ⟨by decide, by decide⟩,
  f_iload_n (n := 1) (e_dx DX0_join_1 27 rfl) rfl,
  f_iload_n (n := 2) (e_dx DX0_join_1 28 rfl) rfl,
  x_callV (e_dx DX0_join_1 29 rfl) mwX0_areOnBoth vwX0_areOnBoth cX0_361 rfl,
  f_if_ne (e_dx DX0_join_1 30 rfl) rfl,
  f_iconst (e_dx DX0_join_1 31 rfl) ⟨by decide, by decide⟩,
  ⟨(e_dx DX0_join_1 32 rfl), rfl⟩,
  f_aload_n (n := 0) (e_dx DX0_join_1 33 rfl) rfl,
  f_getA (e_dx DX0_join_1 34 rfl) fX0_25 rfl (by decide) (Nat.le_of_ble_eq_true rfl) rfl (by decide),
  f_aload_n (n := 3) (e_dx DX0_join_1 35 rfl) rfl,
  f_getA (e_dx DX0_join_1 36 rfl) fX0_299 rfl (by decide) (Nat.le_of_ble_eq_true rfl) rfl (by decide),
  f_aload (e_dx DX0_join_1 37 rfl),
  f_getA (e_dx DX0_join_1 38 rfl) fX0_299 rfl (by decide) (Nat.le_of_ble_eq_true rfl) rfl (by decide),
  x_callV (e_dx DX0_join_1 39 rfl) mwX5_join vwX5_join cX0_364 rfl,
  f_if_ne (e_dx DX0_join_2 0 rfl) rfl,
  f_iconst (e_dx DX0_join_2 1 rfl) ⟨by decide, by decide⟩,
  ⟨(e_dx DX0_join_2 2 rfl), rfl⟩,
  f_aload_n (n := 0) (e_dx DX0_join_2 3 rfl) rfl,
  f_getA (e_dx DX0_join_2 4 rfl) fX0_36 rfl (by decide) (Nat.le_of_ble_eq_true rfl) rfl (by decide),
  f_iconst (e_dx DX0_join_2 5 rfl) ⟨by decide, by decide⟩,
  x_callV (e_dx DX0_join_2 6 rfl) mwX10_isFull vwX10_isFull cX0_200 rfl,
  f_if_eq (e_dx DX0_join_2 7 rfl) rfl,
  f_bipush (e_dx DX0_join_2 8 rfl) ⟨by decide, by decide⟩,
  ⟨(e_dx DX0_join_2 9 rfl), rfl⟩,
  f_aload_n (n := 0) (e_dx DX0_join_2 10 rfl) rfl,
  f_aload_n (n := 0) (e_dx DX0_join_2 11 rfl) rfl,
  f_getA (e_dx DX0_join_2 12 rfl) fX0_40 rfl (by decide) (Nat.le_of_ble_eq_true rfl) rfl (by decide),
  f_getA (e_dx DX0_join_2 13 rfl) fX0_129 rfl (by decide) (Nat.le_of_ble_eq_true rfl) rfl (by decide),
  f_iconst (e_dx DX0_join_2 14 rfl) ⟨by decide, by decide⟩,
  f_laload (e_dx DX0_join_2 15 rfl),
  f_aload_n (n := 3) (e_dx DX0_join_2 16 rfl) rfl,
  f_aload_n (n := 0) (e_dx DX0_join_2 17 rfl) rfl,
  f_getA (e_dx DX0_join_2 18 rfl) fX0_25 rfl (by decide) (Nat.le_of_ble_eq_true rfl) rfl (by decide),
  f_getA (e_dx DX0_join_2 19 rfl) fX0_367 rfl (by decide) (Nat.le_of_ble_eq_true rfl) rfl (by decide),
  x_callV (e_dx DX0_join_2 20 rfl) mwX0_makeLot vwX0_makeLot cX0_316 rfl,
  f_istore (e_dx DX0_join_2 21 rfl) (by decide),
  f_aload_n (n := 3) (e_dx DX0_join_2 22 rfl) rfl,
  f_iconst (e_dx DX0_join_2 23 rfl) ⟨by decide, by decide⟩,
  f_putn (e_dx DX0_join_2 24 rfl) fX0_247 (fun q hq => by cases hq; rfl) rfl (Or.inr (Or.inl rfl)) (by decide),
  f_aload (e_dx DX0_join_2 25 rfl),
  f_iconst (e_dx DX0_join_2 26 rfl) ⟨by decide, by decide⟩,
  f_putn (e_dx DX0_join_2 27 rfl) fX0_247 (fun q hq => by cases hq; rfl) rfl (Or.inr (Or.inl rfl)) (by decide),
  f_aload_n (n := 0) (e_dx DX0_join_2 28 rfl) rfl,
  f_iload_n (n := 1) (e_dx DX0_join_2 29 rfl) rfl,
  f_iload_n (n := 2) (e_dx DX0_join_2 30 rfl) rfl,
  f_iload (e_dx DX0_join_2 31 rfl),
  x_callV (e_dx DX0_join_2 32 rfl) mwX0_mergeRows vwX0_mergeRows cX0_370 rfl,
  f_iconst (e_dx DX0_join_2 33 rfl) ⟨by decide, by decide⟩,
  ⟨(e_dx DX0_join_2 34 rfl), rfl⟩, trivial⟩
def lX0_join (c_X10_lot : Nat → Int → e_M → (Nat → Prop) → Prop) (c_X0_areOwnersAble : Int → e_M → (Int → Prop) → Prop) (c_X4_hasSameOwners : Nat → Nat → e_M → (Int → Prop) → Prop) (c_X0_isBarred : Int → Int → e_M → (Int → Prop) → Prop) (c_X8_isSame : Nat → Nat → e_M → (Int → Prop) → Prop) (c_X0_areOnBoth : Int → Int → Int → e_M → (Int → Prop) → Prop) (c_X5_join : Nat → Nat → e_M → (Int → e_M → Prop) → Prop) (c_X10_isFull : Nat → Int → e_M → (Int → Prop) → Prop) (c_X0_makeLot : Int → Nat → Nat → e_M → (Int → e_M → Prop) → Prop) (c_X0_mergeRows : Int → Int → Int → e_M → (e_M → Prop) → Prop) : List (Nat × f_Wt) := [(0, f_wm [(3, 10, 15), (1, 0, 0)] (fun ar M R => c_X10_lot (f_va (f_nth ar 0)) (f_vi (f_nth ar 1)) M (fun r => R (some (.inr (.inr (.inl (4, 9, r))))) M))), (1, f_wm [(4433, 0, 7), (1, 0, 0)] (fun ar M R => c_X0_areOwnersAble (f_vi (f_nth ar 1)) M (fun r => R (some (.inl r)) M))), (2, f_wm [(3, 4, 9), (3, 4, 9)] (fun ar M R => c_X4_hasSameOwners (f_va (f_nth ar 0)) (f_va (f_nth ar 1)) M (fun r => R (some (.inl r)) M))), (3, f_wm [(4433, 0, 7), (1, 0, 0), (1, 0, 0)] (fun ar M R => c_X0_isBarred (f_vi (f_nth ar 1)) (f_vi (f_nth ar 2)) M (fun r => R (some (.inl r)) M))), (4, f_wm [(3, 8, 2), (3, 8, 2)] (fun ar M R => c_X8_isSame (f_va (f_nth ar 0)) (f_va (f_nth ar 1)) M (fun r => R (some (.inl r)) M))), (5, f_wm [(4433, 0, 7), (1, 0, 0), (1, 0, 0), (1, 0, 0)] (fun ar M R => c_X0_areOnBoth (f_vi (f_nth ar 1)) (f_vi (f_nth ar 2)) (f_vi (f_nth ar 3)) M (fun r => R (some (.inl r)) M))), (6, f_wm [(4436, 5, 12), (3, 3, 3), (3, 3, 3)] (fun ar M R => c_X5_join (f_va (f_nth ar 1)) (f_va (f_nth ar 2)) M (fun r M => R (some (.inl r)) M))), (7, f_wm [(3, 10, 15), (1, 0, 0)] (fun ar M R => c_X10_isFull (f_va (f_nth ar 0)) (f_vi (f_nth ar 1)) M (fun r => R (some (.inl r)) M))), (8, f_wm [(4433, 0, 7), (2, 0, 0), (3, 4, 9), (3, 3, 3)] (fun ar M R => c_X0_makeLot (f_vi (f_nth ar 1)) (f_va (f_nth ar 2)) (f_va (f_nth ar 3)) M (fun r M => R (some (.inl r)) M))), (9, f_wm [(4433, 0, 7), (1, 0, 0), (1, 0, 0), (1, 0, 0)] (fun ar M R => c_X0_mergeRows (f_vi (f_nth ar 1)) (f_vi (f_nth ar 2)) (f_vi (f_nth ar 3)) M (fun M => R none M)))]
set_option maxRecDepth 20000 in
theorem BX0_join {sh : Nat → Nat × Nat} {t : Nat} {rm : Nat × Nat × Nat} {cs : Nat × Nat} {R : f_Rt} {c_X10_lot : Nat → Int → e_M → (Nat → Prop) → Prop} {c_X0_areOwnersAble : Int → e_M → (Int → Prop) → Prop} {c_X4_hasSameOwners : Nat → Nat → e_M → (Int → Prop) → Prop} {c_X0_isBarred : Int → Int → e_M → (Int → Prop) → Prop} {c_X8_isSame : Nat → Nat → e_M → (Int → Prop) → Prop} {c_X0_areOnBoth : Int → Int → Int → e_M → (Int → Prop) → Prop} {c_X5_join : Nat → Nat → e_M → (Int → e_M → Prop) → Prop} {c_X10_isFull : Nat → Int → e_M → (Int → Prop) → Prop} {c_X0_makeLot : Int → Nat → Nat → e_M → (Int → e_M → Prop) → Prop} {c_X0_mergeRows : Int → Int → Int → e_M → (e_M → Prop) → Prop} {M : e_M} (C : f_Hy sh t yX0_join rm cs 8 (lX0_join c_X10_lot c_X0_areOwnersAble c_X4_hasSameOwners c_X0_isBarred c_X8_isSame c_X0_areOnBoth c_X5_join c_X10_isFull c_X0_makeLot c_X0_mergeRows) R) (h : VX0_join c_X10_lot c_X0_areOwnersAble c_X4_hasSameOwners c_X0_isBarred c_X8_isSame c_X0_areOnBoth c_X5_join c_X10_isFull c_X0_makeLot c_X0_mergeRows (fun r M => R (some (.inl r)) M) M) : f_E sh t YX0_join rm cs (f_Q sh t R) 0 [.inr (.inr (.inl (0, 7, 4423))), .inr (.inr (.inr ())), .inr (.inr (.inr ())), .inr (.inr (.inr ())), .inr (.inr (.inr ())), .inr (.inr (.inr ()))] [] M :=
  f_go (KC := f_kc []) C qX0_joinf f_kc_nil 117 0 h
def WX0_join (M : e_M) (Q : Int → e_M → Prop) : Prop :=
  VX0_join WX10_lot WX0_areOwnersAble WX4_hasSameOwners WX0_isBarred WX8_isSame WX0_areOnBoth WX5_join WX10_isFull WX0_makeLot WX0_mergeRows Q M
theorem PX0_join {sh : Nat → Nat × Nat} {t : Nat} {rm : Nat × Nat × Nat} {cs : Nat × Nat} {R : f_Rt} {M : e_M} (C : f_Hy sh t yX0_join rm cs 8 (lX0_join WX10_lot WX0_areOwnersAble WX4_hasSameOwners WX0_isBarred WX8_isSame WX0_areOnBoth WX5_join WX10_isFull WX0_makeLot WX0_mergeRows) R) (h : WX0_join M (fun r M => R (some (.inl r)) M)) : f_E sh t YX0_join rm cs (f_Q sh t R) 0 [.inr (.inr (.inl (0, 7, 4423))), .inr (.inr (.inr ())), .inr (.inr (.inr ())), .inr (.inr (.inr ())), .inr (.inr (.inr ())), .inr (.inr (.inr ()))] [] M :=
  BX0_join C h
def wX0_join : f_Wt := f_wm [(4433, 0, 7)] (fun ar M R => WX0_join M (fun r M => R (some (.inl r)) M))
theorem TX0_join {sh : Nat → Nat × Nat} {t : Nat} : f_Mt sh t YX0_join 8 (wX0_join) :=
  f_Mt_of (k := 5) (Nat.le_of_ble_eq_true rfl) rfl rfl (fun ar M R rm cs h1 h2 h3 hX h => PX0_join ⟨Nat.le_of_ble_eq_true rfl, h1, h2, h3, ⟨(f_Mt.up (Nat.le_of_ble_eq_true rfl) TX10_lot), (f_Mt.up (Nat.le_of_ble_eq_true rfl) TX0_areOwnersAble), (f_Mt.up (Nat.le_of_ble_eq_true rfl) TX4_hasSameOwners), (f_Mt.up (Nat.le_of_ble_eq_true rfl) TX0_isBarred), (f_Mt.up (Nat.le_of_ble_eq_true rfl) TX8_isSame), (f_Mt.up (Nat.le_of_ble_eq_true rfl) TX0_areOnBoth), (f_Mt.up (Nat.le_of_ble_eq_true rfl) TX5_join), (f_Mt.up (Nat.le_of_ble_eq_true rfl) TX10_isFull), (f_Mt.up (Nat.le_of_ble_eq_true rfl) TX0_makeLot), (f_Mt.up (Nat.le_of_ble_eq_true rfl) TX0_mergeRows), trivial⟩, hX⟩ h)
def VX0_moveBorder_123 (c_X10_lot : Nat → Int → e_M → (Nat → Prop) → Prop) (c_X0_areOwnersAble : Int → e_M → (Int → Prop) → Prop) (c_X0_isBarred : Int → Int → e_M → (Int → Prop) → Prop) (c_X5_join : Nat → Nat → e_M → (Int → e_M → Prop) → Prop) (c_X5_cut : Nat → Nat → e_M → (Int → e_M → Prop) → Prop) (c_X10_at : Nat → Int → Int → e_M → (Nat → Prop) → Prop) (c_X8_has : Nat → Int → e_M → (Int → Prop) → Prop) (c_X3_holdsAny : Nat → Nat → e_M → (Int → Prop) → Prop) (c_X9_isThere : Nat → Int → e_M → (Int → Prop) → Prop) (c_X3_copy : Nat → Nat → e_M → (e_M → Prop) → Prop) (k179 : Int → Int → Nat → Nat → Int → Nat → e_M → Prop) (k209 : Int → Int → Nat → Nat → Int → Nat → e_M → Prop) (Q : Int → e_M → Prop) (x1 : Int) (x2 : Int) (a3 : Nat) (a4 : Nat) (x5 : Int) (M : e_M) : Prop :=
  ((0 ≤ (3 : Int) ∧ (3 : Int) < 8) ∧ (((M ((M 4423 0).toNat + 24) ((3 : Int).toNat)) ≤ x5 → (c_X3_copy (a3 + 1) 4427 M (fun M1 => (c_X3_copy (a4 + 1) 4430 M1 (fun M2 => (Q 0 M2)))))) ∧ (x5 < (M ((M 4423 0).toNat + 24) ((3 : Int).toNat)) → (c_X10_at ((M 4423 0).toNat) 3 x5 M (fun r3 => (c_X8_has ((M r3 10).toNat) x1 M (fun r4 => ((r4 = 0 → (k179 x1 x2 a3 a4 x5 r3 M)) ∧ (¬ r4 = 0 → (c_X3_holdsAny 4427 ((M r3 11).toNat) M (fun r5 => ((r5 = 0 → (k209 x1 x2 a3 a4 x5 r3 M)) ∧ (¬ r5 = 0 → (k179 x1 x2 a3 a4 x5 r3 M))))))))))))))
def VX0_moveBorder_179 (c_X10_lot : Nat → Int → e_M → (Nat → Prop) → Prop) (c_X0_areOwnersAble : Int → e_M → (Int → Prop) → Prop) (c_X0_isBarred : Int → Int → e_M → (Int → Prop) → Prop) (c_X5_join : Nat → Nat → e_M → (Int → e_M → Prop) → Prop) (c_X5_cut : Nat → Nat → e_M → (Int → e_M → Prop) → Prop) (c_X10_at : Nat → Int → Int → e_M → (Nat → Prop) → Prop) (c_X8_has : Nat → Int → e_M → (Int → Prop) → Prop) (c_X3_holdsAny : Nat → Nat → e_M → (Int → Prop) → Prop) (c_X9_isThere : Nat → Int → e_M → (Int → Prop) → Prop) (c_X3_copy : Nat → Nat → e_M → (e_M → Prop) → Prop) (k213 : Int → Int → Nat → Nat → Int → Nat → e_M → Prop) (k209 : Int → Int → Nat → Nat → Int → Nat → e_M → Prop) (Q : Int → e_M → Prop) (x1 : Int) (x2 : Int) (a3 : Nat) (a4 : Nat) (x5 : Int) (a6 : Nat) (M : e_M) : Prop :=
  (c_X8_has ((M a6 10).toNat) x2 M (fun r1 => ((r1 = 0 → (k213 x1 x2 a3 a4 x5 a6 M)) ∧ (¬ r1 = 0 → (c_X3_holdsAny 4430 ((M a6 11).toNat) M (fun r2 => ((¬ r2 = 0 → (k213 x1 x2 a3 a4 x5 a6 M)) ∧ (r2 = 0 → (k209 x1 x2 a3 a4 x5 a6 M)))))))))
def VX0_moveBorder_209 (c_X10_lot : Nat → Int → e_M → (Nat → Prop) → Prop) (c_X0_areOwnersAble : Int → e_M → (Int → Prop) → Prop) (c_X0_isBarred : Int → Int → e_M → (Int → Prop) → Prop) (c_X5_join : Nat → Nat → e_M → (Int → e_M → Prop) → Prop) (c_X5_cut : Nat → Nat → e_M → (Int → e_M → Prop) → Prop) (c_X10_at : Nat → Int → Int → e_M → (Nat → Prop) → Prop) (c_X8_has : Nat → Int → e_M → (Int → Prop) → Prop) (c_X3_holdsAny : Nat → Nat → e_M → (Int → Prop) → Prop) (c_X9_isThere : Nat → Int → e_M → (Int → Prop) → Prop) (c_X3_copy : Nat → Nat → e_M → (e_M → Prop) → Prop) (k214 : Int → Int → Nat → Nat → Int → Nat → Int → e_M → Prop) (Q : Int → e_M → Prop) (x1 : Int) (x2 : Int) (a3 : Nat) (a4 : Nat) (x5 : Int) (a6 : Nat) (M : e_M) : Prop :=
  (k214 x1 x2 a3 a4 x5 a6 1 M)
def VX0_moveBorder_213 (c_X10_lot : Nat → Int → e_M → (Nat → Prop) → Prop) (c_X0_areOwnersAble : Int → e_M → (Int → Prop) → Prop) (c_X0_isBarred : Int → Int → e_M → (Int → Prop) → Prop) (c_X5_join : Nat → Nat → e_M → (Int → e_M → Prop) → Prop) (c_X5_cut : Nat → Nat → e_M → (Int → e_M → Prop) → Prop) (c_X10_at : Nat → Int → Int → e_M → (Nat → Prop) → Prop) (c_X8_has : Nat → Int → e_M → (Int → Prop) → Prop) (c_X3_holdsAny : Nat → Nat → e_M → (Int → Prop) → Prop) (c_X9_isThere : Nat → Int → e_M → (Int → Prop) → Prop) (c_X3_copy : Nat → Nat → e_M → (e_M → Prop) → Prop) (k214 : Int → Int → Nat → Nat → Int → Nat → Int → e_M → Prop) (Q : Int → e_M → Prop) (x1 : Int) (x2 : Int) (a3 : Nat) (a4 : Nat) (x5 : Int) (a6 : Nat) (M : e_M) : Prop :=
  (k214 x1 x2 a3 a4 x5 a6 0 M)
def VX0_moveBorder_214 (c_X10_lot : Nat → Int → e_M → (Nat → Prop) → Prop) (c_X0_areOwnersAble : Int → e_M → (Int → Prop) → Prop) (c_X0_isBarred : Int → Int → e_M → (Int → Prop) → Prop) (c_X5_join : Nat → Nat → e_M → (Int → e_M → Prop) → Prop) (c_X5_cut : Nat → Nat → e_M → (Int → e_M → Prop) → Prop) (c_X10_at : Nat → Int → Int → e_M → (Nat → Prop) → Prop) (c_X8_has : Nat → Int → e_M → (Int → Prop) → Prop) (c_X3_holdsAny : Nat → Nat → e_M → (Int → Prop) → Prop) (c_X9_isThere : Nat → Int → e_M → (Int → Prop) → Prop) (c_X3_copy : Nat → Nat → e_M → (e_M → Prop) → Prop) (k238 : Int → Int → Nat → Nat → Int → e_M → Prop) (Q : Int → e_M → Prop) (x1 : Int) (x2 : Int) (a3 : Nat) (a4 : Nat) (x5 : Int) (a6 : Nat) (xs0 : Int) (M : e_M) : Prop :=
  ((xs0 = 0 → (k238 x1 x2 a3 a4 x5 M)) ∧ (¬ xs0 = 0 → (c_X9_isThere a6 (M ((M 4423 0).toNat) 11) M (fun r1 => ((r1 = 0 → (k238 x1 x2 a3 a4 x5 M)) ∧ (¬ r1 = 0 → (Q 5 M)))))))
def VX0_moveBorder_238 (c_X10_lot : Nat → Int → e_M → (Nat → Prop) → Prop) (c_X0_areOwnersAble : Int → e_M → (Int → Prop) → Prop) (c_X0_isBarred : Int → Int → e_M → (Int → Prop) → Prop) (c_X5_join : Nat → Nat → e_M → (Int → e_M → Prop) → Prop) (c_X5_cut : Nat → Nat → e_M → (Int → e_M → Prop) → Prop) (c_X10_at : Nat → Int → Int → e_M → (Nat → Prop) → Prop) (c_X8_has : Nat → Int → e_M → (Int → Prop) → Prop) (c_X3_holdsAny : Nat → Nat → e_M → (Int → Prop) → Prop) (c_X9_isThere : Nat → Int → e_M → (Int → Prop) → Prop) (c_X3_copy : Nat → Nat → e_M → (e_M → Prop) → Prop) (k123 : Int → Int → Nat → Nat → Int → e_M → Prop) (Q : Int → e_M → Prop) (x1 : Int) (x2 : Int) (a3 : Nat) (a4 : Nat) (x5 : Int) (M : e_M) : Prop :=
  (k123 x1 x2 a3 a4 (e_w32 (x5 + 1)) M)
def VX0_moveBorder (c_X10_lot : Nat → Int → e_M → (Nat → Prop) → Prop) (c_X0_areOwnersAble : Int → e_M → (Int → Prop) → Prop) (c_X0_isBarred : Int → Int → e_M → (Int → Prop) → Prop) (c_X5_join : Nat → Nat → e_M → (Int → e_M → Prop) → Prop) (c_X5_cut : Nat → Nat → e_M → (Int → e_M → Prop) → Prop) (c_X10_at : Nat → Int → Int → e_M → (Nat → Prop) → Prop) (c_X8_has : Nat → Int → e_M → (Int → Prop) → Prop) (c_X3_holdsAny : Nat → Nat → e_M → (Int → Prop) → Prop) (c_X9_isThere : Nat → Int → e_M → (Int → Prop) → Prop) (c_X3_copy : Nat → Nat → e_M → (e_M → Prop) → Prop) (k123 : Int → Int → Nat → Nat → Int → e_M → Prop) (Q : Int → e_M → Prop) (M : e_M) : Prop :=
  ((0 ≤ (0 : Int) ∧ (0 : Int) < 8) ∧ ((0 ≤ (1 : Int) ∧ (1 : Int) < 8) ∧ (c_X10_lot ((M 4423 0).toNat) (M 4425 ((0 : Int).toNat)) M (fun r1 => (c_X10_lot ((M 4423 0).toNat) (M 4425 ((1 : Int).toNat)) M (fun r2 => ((¬ (M 4425 ((0 : Int).toNat)) = (M 4425 ((1 : Int).toNat)) → (c_X0_areOwnersAble (M 4425 ((0 : Int).toNat)) M (fun r3 => ((r3 = 0 → (Q 2 M)) ∧ (¬ r3 = 0 → (c_X0_areOwnersAble (M 4425 ((1 : Int).toNat)) M (fun r4 => ((¬ r4 = 0 → (c_X0_isBarred (M 4425 ((0 : Int).toNat)) (-1) M (fun r5 => ((¬ r5 = 0 → (Q 4 M)) ∧ (r5 = 0 → (c_X0_isBarred (M 4425 ((1 : Int).toNat)) (-1) M (fun r6 => ((r6 = 0 → (c_X5_join (r1 + 1) (r2 + 1) M (fun r7 M8 => ((r7 = 0 → (Q 3 M8)) ∧ (¬ r7 = 0 → (c_X5_cut 4433 ((M8 4423 1).toNat) M8 (fun r9 M10 => ((¬ r9 = 0 → (k123 (M 4425 ((0 : Int).toNat)) (M 4425 ((1 : Int).toNat)) r1 r2 0 M10)) ∧ (r9 = 0 → (Q 3 M10)))))))))) ∧ (¬ r6 = 0 → (Q 4 M)))))))))) ∧ (r4 = 0 → (Q 2 M)))))))))) ∧ ((M 4425 ((0 : Int).toNat)) = (M 4425 ((1 : Int).toNat)) → (Q 1 M)))))))))
def yX0_moveBorder (i : Nat) : e_Y := x_get YX0_moveBorder [YX10_lot, YX0_areOwnersAble, YX0_isBarred, YX5_join, YX5_cut, YX10_at, YX8_has, YX3_holdsAny, YX9_isThere, YX3_copy] i
def pX0_moveBorderf : List x_I := [(0, 4, 1, 0, 0, 0, []), (1, 25, 0, 4, 4, 0, [(0, 20, 8), (0, 1, 2)]), (4, 0, 1, 0, 0, 0, []), (5, 27, 0, 0, 0, 0, []), (6, 5, 1, 1, 0, 0, []), (7, 4, 1, 0, 0, 0, []), (8, 25, 0, 4, 4, 0, [(0, 20, 8), (0, 1, 2)]), (11, 0, 1, 0, 0, 1, []), (12, 27, 0, 0, 0, 0, []), (13, 5, 1, 2, 0, 0, []), (14, 4, 1, 0, 0, 0, []), (15, 25, 0, 0, 4, 0, [(0, 10, 15), (0, 0, 0)]), (18, 2, 1, 1, 0, 0, []), (19, 40, 0, 2, 12, 0, []), (22, 7, 1, 3, 0, 0, []), (23, 4, 1, 0, 0, 0, []), (24, 25, 0, 0, 4, 0, [(0, 10, 15), (0, 0, 0)]), (27, 2, 1, 2, 0, 0, []), (28, 40, 0, 2, 12, 0, []), (31, 7, 2, 4, 0, 0, []), (33, 2, 1, 1, 0, 0, []), (34, 2, 1, 2, 0, 0, []), (35, 18, 40, 1, 26, 0, []), (38, 0, 1, 0, 0, 1, []), (39, 41, 0, 0, 0, 0, []), (40, 4, 1, 0, 0, 0, []), (41, 2, 1, 1, 0, 0, []), (42, 40, 1, 2, 2, 0, []), (45, 17, 56, 0, 34, 0, []), (48, 4, 1, 0, 0, 0, []), (49, 2, 1, 2, 0, 0, []), (50, 40, 1, 2, 2, 0, []), (53, 17, 58, 1, 36, 0, []), (56, 0, 1, 0, 0, 2, []), (57, 41, 0, 0, 0, 0, []), (58, 4, 1, 0, 0, 0, []), (59, 2, 1, 1, 0, 0, []), (60, 0, 1, 0, 0, (-1), []), (61, 40, 2, 3, 2, 0, []), (64, 17, 76, 1, 46, 0, []), (67, 4, 1, 0, 0, 0, []), (68, 2, 1, 2, 0, 0, []), (69, 0, 1, 0, 0, (-1), []), (70, 40, 2, 3, 2, 0, []), (73, 17, 78, 0, 48, 0, []), (76, 0, 1, 0, 0, 4, []), (77, 41, 0, 0, 0, 0, []), (78, 4, 1, 0, 0, 0, []), (79, 25, 0, 5, 4, 0, [(0, 5, 12), (0, 1, 3)]), (82, 4, 1, 3, 0, 0, []), (83, 25, 4, 3, 4, 0, [(0, 3, 3), (0, 1, 1)]), (86, 4, 2, 4, 0, 0, []), (88, 25, 4, 3, 4, 0, [(0, 3, 3), (0, 1, 1)]), (91, 40, 3, 3, 7, 0, []), (94, 17, 118, 0, 65, 0, []), (97, 4, 1, 0, 0, 0, []), (98, 25, 0, 5, 4, 0, [(0, 5, 12), (0, 1, 3)]), (101, 4, 1, 0, 0, 0, []), (102, 25, 0, 5, 4, 0, [(0, 5, 12), (0, 1, 3)]), (105, 25, 5, 2, 4, 0, [(0, 3, 3), (0, 1, 7)]), (108, 4, 1, 0, 0, 0, []), (109, 25, 0, 1, 4, 0, [(0, 2, 19), (0, 0, 0)]), (112, 40, 4, 3, 7, 0, []), (115, 17, 120, 1, 67, 0, []), (118, 0, 1, 0, 0, 3, []), (119, 41, 0, 0, 0, 0, []), (120, 0, 1, 0, 0, 0, []), (121, 5, 2, 5, 0, 0, []), (123, 49, 0, 0, 0, 0, []), (123, 2, 2, 5, 0, 0, []), (125, 4, 1, 0, 0, 0, []), (126, 25, 0, 0, 4, 0, [(0, 10, 15), (0, 0, 0)]), (129, 25, 10, 4, 4, 0, [(0, 20, 8), (0, 1, 24)]), (132, 0, 1, 0, 0, 3, []), (133, 27, 0, 0, 0, 0, []), (134, 18, 244, 3, 128, 0, []), (137, 4, 1, 0, 0, 0, []), (138, 25, 0, 0, 4, 0, [(0, 10, 15), (0, 0, 0)]), (141, 0, 1, 0, 0, 3, []), (142, 2, 2, 5, 0, 0, []), (144, 40, 5, 3, 12, 0, []), (147, 7, 2, 6, 0, 0, []), (149, 4, 2, 6, 0, 0, []), (151, 25, 9, 10, 4, 0, [(0, 8, 2), (0, 0, 0)]), (154, 2, 1, 1, 0, 0, []), (155, 40, 6, 2, 10, 0, []), (158, 17, 179, 0, 95, 0, []), (161, 4, 1, 0, 0, 0, []), (162, 25, 0, 5, 4, 0, [(0, 5, 12), (0, 1, 3)]), (165, 25, 5, 0, 4, 0, [(0, 3, 3), (0, 1, 1)]), (168, 4, 2, 6, 0, 0, []), (170, 25, 9, 11, 4, 0, [(0, 2, 19), (0, 0, 0)]), (173, 40, 7, 2, 5, 0, []), (176, 17, 209, 0, 108, 0, []), (179, 49, 0, 0, 0, 0, []), (179, 4, 2, 6, 0, 0, []), (181, 25, 9, 10, 4, 0, [(0, 8, 2), (0, 0, 0)]), (184, 2, 1, 2, 0, 0, []), (185, 40, 6, 2, 10, 0, []), (188, 17, 213, 0, 111, 0, []), (191, 4, 1, 0, 0, 0, []), (192, 25, 0, 5, 4, 0, [(0, 5, 12), (0, 1, 3)]), (195, 25, 5, 1, 4, 0, [(0, 3, 3), (0, 1, 4)]), (198, 4, 2, 6, 0, 0, []), (200, 25, 9, 11, 4, 0, [(0, 2, 19), (0, 0, 0)]), (203, 40, 7, 2, 5, 0, []), (206, 17, 213, 1, 111, 0, []), (209, 49, 0, 0, 0, 0, []), (209, 0, 1, 0, 0, 1, []), (210, 19, 214, 0, 113, 0, []), (213, 49, 0, 0, 0, 0, []), (213, 0, 1, 0, 0, 0, []), (214, 49, 0, 0, 0, 0, []), (214, 5, 2, 7, 0, 0, []), (216, 2, 2, 7, 0, 0, []), (218, 17, 238, 0, 125, 0, []), (221, 4, 2, 6, 0, 0, []), (223, 4, 1, 0, 0, 0, []), (224, 25, 0, 0, 4, 0, [(0, 10, 15), (0, 0, 0)]), (227, 25, 10, 11, 0, 0, []), (230, 40, 8, 2, 11, 0, []), (233, 17, 238, 0, 125, 0, []), (236, 0, 1, 0, 0, 5, []), (237, 41, 0, 0, 0, 0, []), (238, 49, 0, 0, 0, 0, []), (238, 8, 0, 5, 0, 1, []), (241, 19, 123, 0, 69, 0, []), (244, 4, 1, 3, 0, 0, []), (245, 25, 4, 3, 4, 0, [(0, 3, 3), (0, 1, 1)]), (248, 4, 1, 0, 0, 0, []), (249, 25, 0, 5, 4, 0, [(0, 5, 12), (0, 1, 3)]), (252, 25, 5, 0, 4, 0, [(0, 3, 3), (0, 1, 1)]), (255, 40, 9, 2, 5, 0, []), (258, 4, 2, 4, 0, 0, []), (260, 25, 4, 3, 4, 0, [(0, 3, 3), (0, 1, 1)]), (263, 4, 1, 0, 0, 0, []), (264, 25, 0, 5, 4, 0, [(0, 5, 12), (0, 1, 3)]), (267, 25, 5, 1, 4, 0, [(0, 3, 3), (0, 1, 4)]), (270, 40, 9, 2, 5, 0, []), (273, 0, 1, 0, 0, 0, []), (274, 41, 0, 0, 0, 0, [])]
set_option maxRecDepth 20000 in
theorem qX0_moveBorderf : f_all yX0_moveBorder YX0_moveBorder pX0_moveBorderf :=
  ⟨f_aload_n (n := 0) (e_dx DX0_moveBorder_0 0 rfl) rfl,
  f_getA (e_dx DX0_moveBorder_0 1 rfl) fX0_19 rfl (by decide) (Nat.le_of_ble_eq_true rfl) rfl (by decide),
  f_iconst (e_dx DX0_moveBorder_0 2 rfl) ⟨by decide, by decide⟩,
  f_iaload (e_dx DX0_moveBorder_0 3 rfl),
  f_istore_n (n := 1) (e_dx DX0_moveBorder_0 4 rfl) rfl (by decide),
  f_aload_n (n := 0) (e_dx DX0_moveBorder_0 5 rfl) rfl,
  f_getA (e_dx DX0_moveBorder_0 6 rfl) fX0_19 rfl (by decide) (Nat.le_of_ble_eq_true rfl) rfl (by decide),
  f_iconst (e_dx DX0_moveBorder_0 7 rfl) ⟨by decide, by decide⟩,
  f_iaload (e_dx DX0_moveBorder_0 8 rfl),
  f_istore_n (n := 2) (e_dx DX0_moveBorder_0 9 rfl) rfl (by decide),
  f_aload_n (n := 0) (e_dx DX0_moveBorder_0 10 rfl) rfl,
  f_getA (e_dx DX0_moveBorder_0 11 rfl) fX0_36 rfl (by decide) (Nat.le_of_ble_eq_true rfl) rfl (by decide),
  f_iload_n (n := 1) (e_dx DX0_moveBorder_0 12 rfl) rfl,
  x_callV (e_dx DX0_moveBorder_0 13 rfl) mwX10_lot vwX10_lot cX0_161 rfl,
  f_astore_n (n := 3) (e_dx DX0_moveBorder_0 14 rfl) rfl (by decide),
  f_aload_n (n := 0) (e_dx DX0_moveBorder_0 15 rfl) rfl,
  f_getA (e_dx DX0_moveBorder_0 16 rfl) fX0_36 rfl (by decide) (Nat.le_of_ble_eq_true rfl) rfl (by decide),
  f_iload_n (n := 2) (e_dx DX0_moveBorder_0 17 rfl) rfl,
  x_callV (e_dx DX0_moveBorder_0 18 rfl) mwX10_lot vwX10_lot cX0_161 rfl,
  f_astore (e_dx DX0_moveBorder_0 19 rfl) (by decide),
  f_iload_n (n := 1) (e_dx DX0_moveBorder_0 20 rfl) rfl,
  f_iload_n (n := 2) (e_dx DX0_moveBorder_0 21 rfl) rfl,
  f_icmp_ne (e_dx DX0_moveBorder_0 22 rfl) rfl,
  f_iconst (e_dx DX0_moveBorder_0 23 rfl) ⟨by decide, by decide⟩,
  ⟨(e_dx DX0_moveBorder_0 24 rfl), rfl⟩,
  f_aload_n (n := 0) (e_dx DX0_moveBorder_0 25 rfl) rfl,
  f_iload_n (n := 1) (e_dx DX0_moveBorder_0 26 rfl) rfl,
  x_callV (e_dx DX0_moveBorder_0 27 rfl) mwX0_areOwnersAble vwX0_areOwnersAble cX0_296 rfl,
  f_if_eq (e_dx DX0_moveBorder_0 28 rfl) rfl,
  f_aload_n (n := 0) (e_dx DX0_moveBorder_0 29 rfl) rfl,
  f_iload_n (n := 2) (e_dx DX0_moveBorder_0 30 rfl) rfl,
  x_callV (e_dx DX0_moveBorder_0 31 rfl) mwX0_areOwnersAble vwX0_areOwnersAble cX0_296 rfl,
  f_if_ne (e_dx DX0_moveBorder_0 32 rfl) rfl,
  f_iconst (e_dx DX0_moveBorder_0 33 rfl) ⟨by decide, by decide⟩,
  ⟨(e_dx DX0_moveBorder_0 34 rfl), rfl⟩,
  f_aload_n (n := 0) (e_dx DX0_moveBorder_0 35 rfl) rfl,
  f_iload_n (n := 1) (e_dx DX0_moveBorder_0 36 rfl) rfl,
  f_iconst (e_dx DX0_moveBorder_0 37 rfl) ⟨by decide, by decide⟩,
  x_callV (e_dx DX0_moveBorder_0 38 rfl) mwX0_isBarred vwX0_isBarred cX0_275 rfl,
  f_if_ne (e_dx DX0_moveBorder_0 39 rfl) rfl,
  f_aload_n (n := 0) (e_dx DX0_moveBorder_1 0 rfl) rfl,
  f_iload_n (n := 2) (e_dx DX0_moveBorder_1 1 rfl) rfl,
  f_iconst (e_dx DX0_moveBorder_1 2 rfl) ⟨by decide, by decide⟩,
  x_callV (e_dx DX0_moveBorder_1 3 rfl) mwX0_isBarred vwX0_isBarred cX0_275 rfl,
  f_if_eq (e_dx DX0_moveBorder_1 4 rfl) rfl,
  f_iconst (e_dx DX0_moveBorder_1 5 rfl) ⟨by decide, by decide⟩,
  ⟨(e_dx DX0_moveBorder_1 6 rfl), rfl⟩,
  f_aload_n (n := 0) (e_dx DX0_moveBorder_1 7 rfl) rfl,
  f_getA (e_dx DX0_moveBorder_1 8 rfl) fX0_25 rfl (by decide) (Nat.le_of_ble_eq_true rfl) rfl (by decide),
  f_aload_n (n := 3) (e_dx DX0_moveBorder_1 9 rfl) rfl,
  f_getA (e_dx DX0_moveBorder_1 10 rfl) fX0_299 rfl (by decide) (Nat.le_of_ble_eq_true rfl) rfl (by decide),
  f_aload (e_dx DX0_moveBorder_1 11 rfl),
  f_getA (e_dx DX0_moveBorder_1 12 rfl) fX0_299 rfl (by decide) (Nat.le_of_ble_eq_true rfl) rfl (by decide),
  x_callV (e_dx DX0_moveBorder_1 13 rfl) mwX5_join vwX5_join cX0_364 rfl,
  f_if_eq (e_dx DX0_moveBorder_1 14 rfl) rfl,
  f_aload_n (n := 0) (e_dx DX0_moveBorder_1 15 rfl) rfl,
  f_getA (e_dx DX0_moveBorder_1 16 rfl) fX0_25 rfl (by decide) (Nat.le_of_ble_eq_true rfl) rfl (by decide),
  f_aload_n (n := 0) (e_dx DX0_moveBorder_1 17 rfl) rfl,
  f_getA (e_dx DX0_moveBorder_1 18 rfl) fX0_25 rfl (by decide) (Nat.le_of_ble_eq_true rfl) rfl (by decide),
  f_getA (e_dx DX0_moveBorder_1 19 rfl) fX0_367 rfl (by decide) (Nat.le_of_ble_eq_true rfl) rfl (by decide),
  f_aload_n (n := 0) (e_dx DX0_moveBorder_1 20 rfl) rfl,
  f_getA (e_dx DX0_moveBorder_1 21 rfl) fX0_40 rfl (by decide) (Nat.le_of_ble_eq_true rfl) rfl (by decide),
  x_callV (e_dx DX0_moveBorder_1 22 rfl) mwX5_cut vwX5_cut cX0_303 rfl,
  f_if_ne (e_dx DX0_moveBorder_1 23 rfl) rfl,
  f_iconst (e_dx DX0_moveBorder_1 24 rfl) ⟨by decide, by decide⟩,
  ⟨(e_dx DX0_moveBorder_1 25 rfl), rfl⟩,
  f_iconst (e_dx DX0_moveBorder_1 26 rfl) ⟨by decide, by decide⟩,
  f_istore (e_dx DX0_moveBorder_1 27 rfl) (by decide),
  trivial,
  f_iload (e_dx DX0_moveBorder_1 28 rfl),
  f_aload_n (n := 0) (e_dx DX0_moveBorder_1 29 rfl) rfl,
  f_getA (e_dx DX0_moveBorder_1 30 rfl) fX0_36 rfl (by decide) (Nat.le_of_ble_eq_true rfl) rfl (by decide),
  f_getA (e_dx DX0_moveBorder_1 31 rfl) fX0_174 rfl (by decide) (Nat.le_of_ble_eq_true rfl) rfl (by decide),
  f_iconst (e_dx DX0_moveBorder_1 32 rfl) ⟨by decide, by decide⟩,
  f_iaload (e_dx DX0_moveBorder_1 33 rfl),
  f_icmp_ge (e_dx DX0_moveBorder_1 34 rfl) rfl,
  f_aload_n (n := 0) (e_dx DX0_moveBorder_1 35 rfl) rfl,
  f_getA (e_dx DX0_moveBorder_1 36 rfl) fX0_36 rfl (by decide) (Nat.le_of_ble_eq_true rfl) rfl (by decide),
  f_iconst (e_dx DX0_moveBorder_1 37 rfl) ⟨by decide, by decide⟩,
  f_iload (e_dx DX0_moveBorder_1 38 rfl),
  x_callV (e_dx DX0_moveBorder_1 39 rfl) mwX10_at vwX10_at cX0_152 rfl,
  f_astore (e_dx DX0_moveBorder_2 0 rfl) (by decide),
  f_aload (e_dx DX0_moveBorder_2 1 rfl),
  f_getA (e_dx DX0_moveBorder_2 2 rfl) fX0_293 rfl (by decide) (Nat.le_of_ble_eq_true rfl) rfl (by decide),
  f_iload_n (n := 1) (e_dx DX0_moveBorder_2 3 rfl) rfl,
  x_callV (e_dx DX0_moveBorder_2 4 rfl) mwX8_has vwX8_has cX0_183 rfl,
  f_if_eq (e_dx DX0_moveBorder_2 5 rfl) rfl,
  f_aload_n (n := 0) (e_dx DX0_moveBorder_2 6 rfl) rfl,
  f_getA (e_dx DX0_moveBorder_2 7 rfl) fX0_25 rfl (by decide) (Nat.le_of_ble_eq_true rfl) rfl (by decide),
  f_getA (e_dx DX0_moveBorder_2 8 rfl) fX0_313 rfl (by decide) (Nat.le_of_ble_eq_true rfl) rfl (by decide),
  f_aload (e_dx DX0_moveBorder_2 9 rfl),
  f_getA (e_dx DX0_moveBorder_2 10 rfl) fX0_327 rfl (by decide) (Nat.le_of_ble_eq_true rfl) rfl (by decide),
  x_callV (e_dx DX0_moveBorder_2 11 rfl) mwX3_holdsAny vwX3_holdsAny cX0_332 rfl,
  f_if_eq (e_dx DX0_moveBorder_2 12 rfl) rfl,
  trivial,
  f_aload (e_dx DX0_moveBorder_2 13 rfl),
  f_getA (e_dx DX0_moveBorder_2 14 rfl) fX0_293 rfl (by decide) (Nat.le_of_ble_eq_true rfl) rfl (by decide),
  f_iload_n (n := 2) (e_dx DX0_moveBorder_2 15 rfl) rfl,
  x_callV (e_dx DX0_moveBorder_2 16 rfl) mwX8_has vwX8_has cX0_183 rfl,
  f_if_eq (e_dx DX0_moveBorder_2 17 rfl) rfl,
  f_aload_n (n := 0) (e_dx DX0_moveBorder_2 18 rfl) rfl,
  f_getA (e_dx DX0_moveBorder_2 19 rfl) fX0_25 rfl (by decide) (Nat.le_of_ble_eq_true rfl) rfl (by decide),
  f_getA (e_dx DX0_moveBorder_2 20 rfl) fX0_320 rfl (by decide) (Nat.le_of_ble_eq_true rfl) rfl (by decide),
  f_aload (e_dx DX0_moveBorder_2 21 rfl),
  f_getA (e_dx DX0_moveBorder_2 22 rfl) fX0_327 rfl (by decide) (Nat.le_of_ble_eq_true rfl) rfl (by decide),
  x_callV (e_dx DX0_moveBorder_2 23 rfl) mwX3_holdsAny vwX3_holdsAny cX0_332 rfl,
  f_if_ne (e_dx DX0_moveBorder_2 24 rfl) rfl,
  trivial,
  f_iconst (e_dx DX0_moveBorder_2 25 rfl) ⟨by decide, by decide⟩,
  f_g19 (e_dx DX0_moveBorder_2 26 rfl) rfl,
  trivial,
  f_iconst (e_dx DX0_moveBorder_2 27 rfl) ⟨by decide, by decide⟩,
  trivial,
  f_istore (e_dx DX0_moveBorder_2 28 rfl) (by decide),
  f_iload (e_dx DX0_moveBorder_2 29 rfl),
  f_if_eq (e_dx DX0_moveBorder_2 30 rfl) rfl,
  f_aload (e_dx DX0_moveBorder_2 31 rfl),
  f_aload_n (n := 0) (e_dx DX0_moveBorder_2 32 rfl) rfl,
  f_getA (e_dx DX0_moveBorder_2 33 rfl) fX0_36 rfl (by decide) (Nat.le_of_ble_eq_true rfl) rfl (by decide),
  f_getf (e_dx DX0_moveBorder_2 34 rfl) fX0_49 rfl (by decide) (by decide) (by decide),
  x_callV (e_dx DX0_moveBorder_2 35 rfl) mwX9_isThere vwX9_isThere cX0_177 rfl,
  f_if_eq (e_dx DX0_moveBorder_2 36 rfl) rfl,
  f_iconst (e_dx DX0_moveBorder_2 37 rfl) ⟨by decide, by decide⟩,
  ⟨(e_dx DX0_moveBorder_2 38 rfl), rfl⟩,
  trivial,
  f_g8 (e_dx DX0_moveBorder_2 39 rfl) ⟨by decide, by decide⟩,
  f_g19 (e_dx DX0_moveBorder_3 0 rfl) rfl,
  f_aload_n (n := 3) (e_dx DX0_moveBorder_3 1 rfl) rfl,
  f_getA (e_dx DX0_moveBorder_3 2 rfl) fX0_299 rfl (by decide) (Nat.le_of_ble_eq_true rfl) rfl (by decide),
  f_aload_n (n := 0) (e_dx DX0_moveBorder_3 3 rfl) rfl,
  f_getA (e_dx DX0_moveBorder_3 4 rfl) fX0_25 rfl (by decide) (Nat.le_of_ble_eq_true rfl) rfl (by decide),
  f_getA (e_dx DX0_moveBorder_3 5 rfl) fX0_313 rfl (by decide) (Nat.le_of_ble_eq_true rfl) rfl (by decide),
  x_callV (e_dx DX0_moveBorder_3 6 rfl) mwX3_copy vwX3_copy cX0_350 rfl,
  f_aload (e_dx DX0_moveBorder_3 7 rfl),
  f_getA (e_dx DX0_moveBorder_3 8 rfl) fX0_299 rfl (by decide) (Nat.le_of_ble_eq_true rfl) rfl (by decide),
  f_aload_n (n := 0) (e_dx DX0_moveBorder_3 9 rfl) rfl,
  f_getA (e_dx DX0_moveBorder_3 10 rfl) fX0_25 rfl (by decide) (Nat.le_of_ble_eq_true rfl) rfl (by decide),
  f_getA (e_dx DX0_moveBorder_3 11 rfl) fX0_320 rfl (by decide) (Nat.le_of_ble_eq_true rfl) rfl (by decide),
  x_callV (e_dx DX0_moveBorder_3 12 rfl) mwX3_copy vwX3_copy cX0_350 rfl,
  f_iconst (e_dx DX0_moveBorder_3 13 rfl) ⟨by decide, by decide⟩,
  ⟨(e_dx DX0_moveBorder_3 14 rfl), rfl⟩, trivial⟩
def lX0_moveBorder (c_X10_lot : Nat → Int → e_M → (Nat → Prop) → Prop) (c_X0_areOwnersAble : Int → e_M → (Int → Prop) → Prop) (c_X0_isBarred : Int → Int → e_M → (Int → Prop) → Prop) (c_X5_join : Nat → Nat → e_M → (Int → e_M → Prop) → Prop) (c_X5_cut : Nat → Nat → e_M → (Int → e_M → Prop) → Prop) (c_X10_at : Nat → Int → Int → e_M → (Nat → Prop) → Prop) (c_X8_has : Nat → Int → e_M → (Int → Prop) → Prop) (c_X3_holdsAny : Nat → Nat → e_M → (Int → Prop) → Prop) (c_X9_isThere : Nat → Int → e_M → (Int → Prop) → Prop) (c_X3_copy : Nat → Nat → e_M → (e_M → Prop) → Prop) : List (Nat × f_Wt) := [(0, f_wm [(3, 10, 15), (1, 0, 0)] (fun ar M R => c_X10_lot (f_va (f_nth ar 0)) (f_vi (f_nth ar 1)) M (fun r => R (some (.inr (.inr (.inl (4, 9, r))))) M))), (1, f_wm [(4433, 0, 7), (1, 0, 0)] (fun ar M R => c_X0_areOwnersAble (f_vi (f_nth ar 1)) M (fun r => R (some (.inl r)) M))), (2, f_wm [(4433, 0, 7), (1, 0, 0), (1, 0, 0)] (fun ar M R => c_X0_isBarred (f_vi (f_nth ar 1)) (f_vi (f_nth ar 2)) M (fun r => R (some (.inl r)) M))), (3, f_wm [(4436, 5, 12), (3, 3, 3), (3, 3, 3)] (fun ar M R => c_X5_join (f_va (f_nth ar 1)) (f_va (f_nth ar 2)) M (fun r M => R (some (.inl r)) M))), (4, f_wm [(4436, 5, 12), (3, 3, 3), (3, 2, 19)] (fun ar M R => c_X5_cut (f_va (f_nth ar 1)) (f_va (f_nth ar 2)) M (fun r M => R (some (.inl r)) M))), (5, f_wm [(3, 10, 15), (1, 0, 0), (1, 0, 0)] (fun ar M R => c_X10_at (f_va (f_nth ar 0)) (f_vi (f_nth ar 1)) (f_vi (f_nth ar 2)) M (fun r => R (some (.inr (.inr (.inl (9, 14, r))))) M))), (6, f_wm [(3, 8, 2), (1, 0, 0)] (fun ar M R => c_X8_has (f_va (f_nth ar 0)) (f_vi (f_nth ar 1)) M (fun r => R (some (.inl r)) M))), (7, f_wm [(3, 3, 3), (3, 2, 19)] (fun ar M R => c_X3_holdsAny (f_va (f_nth ar 0)) (f_va (f_nth ar 1)) M (fun r => R (some (.inl r)) M))), (8, f_wm [(3, 9, 14), (1, 0, 0)] (fun ar M R => c_X9_isThere (f_va (f_nth ar 0)) (f_vi (f_nth ar 1)) M (fun r => R (some (.inl r)) M))), (9, f_wm [(3, 3, 3), (3, 3, 3)] (fun ar M R => c_X3_copy (f_va (f_nth ar 0)) (f_va (f_nth ar 1)) M (fun M => R none M)))]
set_option maxRecDepth 20000 in
theorem BX0_moveBorder_123 {sh : Nat → Nat × Nat} {t : Nat} {rm : Nat × Nat × Nat} {cs : Nat × Nat} {R : f_Rt} {c_X10_lot : Nat → Int → e_M → (Nat → Prop) → Prop} {c_X0_areOwnersAble : Int → e_M → (Int → Prop) → Prop} {c_X0_isBarred : Int → Int → e_M → (Int → Prop) → Prop} {c_X5_join : Nat → Nat → e_M → (Int → e_M → Prop) → Prop} {c_X5_cut : Nat → Nat → e_M → (Int → e_M → Prop) → Prop} {c_X10_at : Nat → Int → Int → e_M → (Nat → Prop) → Prop} {c_X8_has : Nat → Int → e_M → (Int → Prop) → Prop} {c_X3_holdsAny : Nat → Nat → e_M → (Int → Prop) → Prop} {c_X9_isThere : Nat → Int → e_M → (Int → Prop) → Prop} {c_X3_copy : Nat → Nat → e_M → (e_M → Prop) → Prop} {k179 : Int → Int → Nat → Nat → Int → Nat → e_M → Prop} {k209 : Int → Int → Nat → Nat → Int → Nat → e_M → Prop} {x1 : Int} {x2 : Int} {a3 : Nat} {a4 : Nat} {x5 : Int} {M : e_M} (C : f_Hy sh t yX0_moveBorder rm cs 8 (lX0_moveBorder c_X10_lot c_X0_areOwnersAble c_X0_isBarred c_X5_join c_X5_cut c_X10_at c_X8_has c_X3_holdsAny c_X9_isThere c_X3_copy) R) (h179 : ∀ (x1 : Int) (x2 : Int) (a3 : Nat) (a4 : Nat) (x5 : Int) (a6 : Nat) (M : e_M), k179 x1 x2 a3 a4 x5 a6 M → f_E sh t YX0_moveBorder rm cs (f_Q sh t R) 179 [.inr (.inr (.inl (0, 7, 4423))), .inl x1, .inl x2, .inr (.inr (.inl (4, 9, a3))), .inr (.inr (.inl (4, 9, a4))), .inl x5, .inr (.inr (.inl (9, 14, a6))), .inr (.inr (.inr ()))] [] M) (h209 : ∀ (x1 : Int) (x2 : Int) (a3 : Nat) (a4 : Nat) (x5 : Int) (a6 : Nat) (M : e_M), k209 x1 x2 a3 a4 x5 a6 M → f_E sh t YX0_moveBorder rm cs (f_Q sh t R) 209 [.inr (.inr (.inl (0, 7, 4423))), .inl x1, .inl x2, .inr (.inr (.inl (4, 9, a3))), .inr (.inr (.inl (4, 9, a4))), .inl x5, .inr (.inr (.inl (9, 14, a6))), .inr (.inr (.inr ()))] [] M) (h : VX0_moveBorder_123 c_X10_lot c_X0_areOwnersAble c_X0_isBarred c_X5_join c_X5_cut c_X10_at c_X8_has c_X3_holdsAny c_X9_isThere c_X3_copy k179 k209 (fun r M => R (some (.inl r)) M) x1 x2 a3 a4 x5 M) : f_E sh t YX0_moveBorder rm cs (f_Q sh t R) 123 [.inr (.inr (.inl (0, 7, 4423))), .inl x1, .inl x2, .inr (.inr (.inl (4, 9, a3))), .inr (.inr (.inl (4, 9, a4))), .inl x5, .inr (.inr (.inr ())), .inr (.inr (.inr ()))] [] M :=
  f_go (KC := f_kc [(179, f_pl [(4433, 0, 7), (1, 0, 0), (1, 0, 0), (3, 4, 9), (3, 4, 9), (1, 0, 0), (3, 9, 14), (0, 0, 0)] [] (fun ls st M => k179 (f_vi (f_nth ls 1)) (f_vi (f_nth ls 2)) (f_va (f_nth ls 3)) (f_va (f_nth ls 4)) (f_vi (f_nth ls 5)) (f_va (f_nth ls 6)) M)), (209, f_pl [(4433, 0, 7), (1, 0, 0), (1, 0, 0), (3, 4, 9), (3, 4, 9), (1, 0, 0), (3, 9, 14), (0, 0, 0)] [] (fun ls st M => k209 (f_vi (f_nth ls 1)) (f_vi (f_nth ls 2)) (f_va (f_nth ls 3)) (f_va (f_nth ls 4)) (f_vi (f_nth ls 5)) (f_va (f_nth ls 6)) M))]) C qX0_moveBorderf (f_kc_cons (f_pl_ok rfl (fun ls st M h => h179 _ _ _ _ _ _ M h)) (f_kc_cons (f_pl_ok rfl (fun ls st M h => h209 _ _ _ _ _ _ M h)) f_kc_nil)) 143 69 h
set_option maxRecDepth 20000 in
theorem BX0_moveBorder_179 {sh : Nat → Nat × Nat} {t : Nat} {rm : Nat × Nat × Nat} {cs : Nat × Nat} {R : f_Rt} {c_X10_lot : Nat → Int → e_M → (Nat → Prop) → Prop} {c_X0_areOwnersAble : Int → e_M → (Int → Prop) → Prop} {c_X0_isBarred : Int → Int → e_M → (Int → Prop) → Prop} {c_X5_join : Nat → Nat → e_M → (Int → e_M → Prop) → Prop} {c_X5_cut : Nat → Nat → e_M → (Int → e_M → Prop) → Prop} {c_X10_at : Nat → Int → Int → e_M → (Nat → Prop) → Prop} {c_X8_has : Nat → Int → e_M → (Int → Prop) → Prop} {c_X3_holdsAny : Nat → Nat → e_M → (Int → Prop) → Prop} {c_X9_isThere : Nat → Int → e_M → (Int → Prop) → Prop} {c_X3_copy : Nat → Nat → e_M → (e_M → Prop) → Prop} {k213 : Int → Int → Nat → Nat → Int → Nat → e_M → Prop} {k209 : Int → Int → Nat → Nat → Int → Nat → e_M → Prop} {x1 : Int} {x2 : Int} {a3 : Nat} {a4 : Nat} {x5 : Int} {a6 : Nat} {M : e_M} (C : f_Hy sh t yX0_moveBorder rm cs 8 (lX0_moveBorder c_X10_lot c_X0_areOwnersAble c_X0_isBarred c_X5_join c_X5_cut c_X10_at c_X8_has c_X3_holdsAny c_X9_isThere c_X3_copy) R) (h213 : ∀ (x1 : Int) (x2 : Int) (a3 : Nat) (a4 : Nat) (x5 : Int) (a6 : Nat) (M : e_M), k213 x1 x2 a3 a4 x5 a6 M → f_E sh t YX0_moveBorder rm cs (f_Q sh t R) 213 [.inr (.inr (.inl (0, 7, 4423))), .inl x1, .inl x2, .inr (.inr (.inl (4, 9, a3))), .inr (.inr (.inl (4, 9, a4))), .inl x5, .inr (.inr (.inl (9, 14, a6))), .inr (.inr (.inr ()))] [] M) (h209 : ∀ (x1 : Int) (x2 : Int) (a3 : Nat) (a4 : Nat) (x5 : Int) (a6 : Nat) (M : e_M), k209 x1 x2 a3 a4 x5 a6 M → f_E sh t YX0_moveBorder rm cs (f_Q sh t R) 209 [.inr (.inr (.inl (0, 7, 4423))), .inl x1, .inl x2, .inr (.inr (.inl (4, 9, a3))), .inr (.inr (.inl (4, 9, a4))), .inl x5, .inr (.inr (.inl (9, 14, a6))), .inr (.inr (.inr ()))] [] M) (h : VX0_moveBorder_179 c_X10_lot c_X0_areOwnersAble c_X0_isBarred c_X5_join c_X5_cut c_X10_at c_X8_has c_X3_holdsAny c_X9_isThere c_X3_copy k213 k209 (fun r M => R (some (.inl r)) M) x1 x2 a3 a4 x5 a6 M) : f_E sh t YX0_moveBorder rm cs (f_Q sh t R) 179 [.inr (.inr (.inl (0, 7, 4423))), .inl x1, .inl x2, .inr (.inr (.inl (4, 9, a3))), .inr (.inr (.inl (4, 9, a4))), .inl x5, .inr (.inr (.inl (9, 14, a6))), .inr (.inr (.inr ()))] [] M :=
  f_go (KC := f_kc [(213, f_pl [(4433, 0, 7), (1, 0, 0), (1, 0, 0), (3, 4, 9), (3, 4, 9), (1, 0, 0), (3, 9, 14), (0, 0, 0)] [] (fun ls st M => k213 (f_vi (f_nth ls 1)) (f_vi (f_nth ls 2)) (f_va (f_nth ls 3)) (f_va (f_nth ls 4)) (f_vi (f_nth ls 5)) (f_va (f_nth ls 6)) M)), (209, f_pl [(4433, 0, 7), (1, 0, 0), (1, 0, 0), (3, 4, 9), (3, 4, 9), (1, 0, 0), (3, 9, 14), (0, 0, 0)] [] (fun ls st M => k209 (f_vi (f_nth ls 1)) (f_vi (f_nth ls 2)) (f_va (f_nth ls 3)) (f_va (f_nth ls 4)) (f_vi (f_nth ls 5)) (f_va (f_nth ls 6)) M))]) C qX0_moveBorderf (f_kc_cons (f_pl_ok rfl (fun ls st M h => h213 _ _ _ _ _ _ M h)) (f_kc_cons (f_pl_ok rfl (fun ls st M h => h209 _ _ _ _ _ _ M h)) f_kc_nil)) 143 95 h
set_option maxRecDepth 20000 in
theorem BX0_moveBorder_209 {sh : Nat → Nat × Nat} {t : Nat} {rm : Nat × Nat × Nat} {cs : Nat × Nat} {R : f_Rt} {c_X10_lot : Nat → Int → e_M → (Nat → Prop) → Prop} {c_X0_areOwnersAble : Int → e_M → (Int → Prop) → Prop} {c_X0_isBarred : Int → Int → e_M → (Int → Prop) → Prop} {c_X5_join : Nat → Nat → e_M → (Int → e_M → Prop) → Prop} {c_X5_cut : Nat → Nat → e_M → (Int → e_M → Prop) → Prop} {c_X10_at : Nat → Int → Int → e_M → (Nat → Prop) → Prop} {c_X8_has : Nat → Int → e_M → (Int → Prop) → Prop} {c_X3_holdsAny : Nat → Nat → e_M → (Int → Prop) → Prop} {c_X9_isThere : Nat → Int → e_M → (Int → Prop) → Prop} {c_X3_copy : Nat → Nat → e_M → (e_M → Prop) → Prop} {k214 : Int → Int → Nat → Nat → Int → Nat → Int → e_M → Prop} {x1 : Int} {x2 : Int} {a3 : Nat} {a4 : Nat} {x5 : Int} {a6 : Nat} {M : e_M} (C : f_Hy sh t yX0_moveBorder rm cs 8 (lX0_moveBorder c_X10_lot c_X0_areOwnersAble c_X0_isBarred c_X5_join c_X5_cut c_X10_at c_X8_has c_X3_holdsAny c_X9_isThere c_X3_copy) R) (h214 : ∀ (x1 : Int) (x2 : Int) (a3 : Nat) (a4 : Nat) (x5 : Int) (a6 : Nat) (xs0 : Int) (M : e_M), k214 x1 x2 a3 a4 x5 a6 xs0 M → f_E sh t YX0_moveBorder rm cs (f_Q sh t R) 214 [.inr (.inr (.inl (0, 7, 4423))), .inl x1, .inl x2, .inr (.inr (.inl (4, 9, a3))), .inr (.inr (.inl (4, 9, a4))), .inl x5, .inr (.inr (.inl (9, 14, a6))), .inr (.inr (.inr ()))] [.inl xs0] M) (h : VX0_moveBorder_209 c_X10_lot c_X0_areOwnersAble c_X0_isBarred c_X5_join c_X5_cut c_X10_at c_X8_has c_X3_holdsAny c_X9_isThere c_X3_copy k214 (fun r M => R (some (.inl r)) M) x1 x2 a3 a4 x5 a6 M) : f_E sh t YX0_moveBorder rm cs (f_Q sh t R) 209 [.inr (.inr (.inl (0, 7, 4423))), .inl x1, .inl x2, .inr (.inr (.inl (4, 9, a3))), .inr (.inr (.inl (4, 9, a4))), .inl x5, .inr (.inr (.inl (9, 14, a6))), .inr (.inr (.inr ()))] [] M :=
  f_go (KC := f_kc [(214, f_pl [(4433, 0, 7), (1, 0, 0), (1, 0, 0), (3, 4, 9), (3, 4, 9), (1, 0, 0), (3, 9, 14), (0, 0, 0)] [(1, 0, 0)] (fun ls st M => k214 (f_vi (f_nth ls 1)) (f_vi (f_nth ls 2)) (f_va (f_nth ls 3)) (f_va (f_nth ls 4)) (f_vi (f_nth ls 5)) (f_va (f_nth ls 6)) (f_vi (f_nth st 0)) M))]) C qX0_moveBorderf (f_kc_cons (f_pl_ok rfl (fun ls st M h => h214 _ _ _ _ _ _ _ M h)) f_kc_nil) 143 108 h
set_option maxRecDepth 20000 in
theorem BX0_moveBorder_213 {sh : Nat → Nat × Nat} {t : Nat} {rm : Nat × Nat × Nat} {cs : Nat × Nat} {R : f_Rt} {c_X10_lot : Nat → Int → e_M → (Nat → Prop) → Prop} {c_X0_areOwnersAble : Int → e_M → (Int → Prop) → Prop} {c_X0_isBarred : Int → Int → e_M → (Int → Prop) → Prop} {c_X5_join : Nat → Nat → e_M → (Int → e_M → Prop) → Prop} {c_X5_cut : Nat → Nat → e_M → (Int → e_M → Prop) → Prop} {c_X10_at : Nat → Int → Int → e_M → (Nat → Prop) → Prop} {c_X8_has : Nat → Int → e_M → (Int → Prop) → Prop} {c_X3_holdsAny : Nat → Nat → e_M → (Int → Prop) → Prop} {c_X9_isThere : Nat → Int → e_M → (Int → Prop) → Prop} {c_X3_copy : Nat → Nat → e_M → (e_M → Prop) → Prop} {k214 : Int → Int → Nat → Nat → Int → Nat → Int → e_M → Prop} {x1 : Int} {x2 : Int} {a3 : Nat} {a4 : Nat} {x5 : Int} {a6 : Nat} {M : e_M} (C : f_Hy sh t yX0_moveBorder rm cs 8 (lX0_moveBorder c_X10_lot c_X0_areOwnersAble c_X0_isBarred c_X5_join c_X5_cut c_X10_at c_X8_has c_X3_holdsAny c_X9_isThere c_X3_copy) R) (h214 : ∀ (x1 : Int) (x2 : Int) (a3 : Nat) (a4 : Nat) (x5 : Int) (a6 : Nat) (xs0 : Int) (M : e_M), k214 x1 x2 a3 a4 x5 a6 xs0 M → f_E sh t YX0_moveBorder rm cs (f_Q sh t R) 214 [.inr (.inr (.inl (0, 7, 4423))), .inl x1, .inl x2, .inr (.inr (.inl (4, 9, a3))), .inr (.inr (.inl (4, 9, a4))), .inl x5, .inr (.inr (.inl (9, 14, a6))), .inr (.inr (.inr ()))] [.inl xs0] M) (h : VX0_moveBorder_213 c_X10_lot c_X0_areOwnersAble c_X0_isBarred c_X5_join c_X5_cut c_X10_at c_X8_has c_X3_holdsAny c_X9_isThere c_X3_copy k214 (fun r M => R (some (.inl r)) M) x1 x2 a3 a4 x5 a6 M) : f_E sh t YX0_moveBorder rm cs (f_Q sh t R) 213 [.inr (.inr (.inl (0, 7, 4423))), .inl x1, .inl x2, .inr (.inr (.inl (4, 9, a3))), .inr (.inr (.inl (4, 9, a4))), .inl x5, .inr (.inr (.inl (9, 14, a6))), .inr (.inr (.inr ()))] [] M :=
  f_go (KC := f_kc [(214, f_pl [(4433, 0, 7), (1, 0, 0), (1, 0, 0), (3, 4, 9), (3, 4, 9), (1, 0, 0), (3, 9, 14), (0, 0, 0)] [(1, 0, 0)] (fun ls st M => k214 (f_vi (f_nth ls 1)) (f_vi (f_nth ls 2)) (f_va (f_nth ls 3)) (f_va (f_nth ls 4)) (f_vi (f_nth ls 5)) (f_va (f_nth ls 6)) (f_vi (f_nth st 0)) M))]) C qX0_moveBorderf (f_kc_cons (f_pl_ok rfl (fun ls st M h => h214 _ _ _ _ _ _ _ M h)) f_kc_nil) 143 111 h
set_option maxRecDepth 20000 in
theorem BX0_moveBorder_214 {sh : Nat → Nat × Nat} {t : Nat} {rm : Nat × Nat × Nat} {cs : Nat × Nat} {R : f_Rt} {c_X10_lot : Nat → Int → e_M → (Nat → Prop) → Prop} {c_X0_areOwnersAble : Int → e_M → (Int → Prop) → Prop} {c_X0_isBarred : Int → Int → e_M → (Int → Prop) → Prop} {c_X5_join : Nat → Nat → e_M → (Int → e_M → Prop) → Prop} {c_X5_cut : Nat → Nat → e_M → (Int → e_M → Prop) → Prop} {c_X10_at : Nat → Int → Int → e_M → (Nat → Prop) → Prop} {c_X8_has : Nat → Int → e_M → (Int → Prop) → Prop} {c_X3_holdsAny : Nat → Nat → e_M → (Int → Prop) → Prop} {c_X9_isThere : Nat → Int → e_M → (Int → Prop) → Prop} {c_X3_copy : Nat → Nat → e_M → (e_M → Prop) → Prop} {k238 : Int → Int → Nat → Nat → Int → e_M → Prop} {x1 : Int} {x2 : Int} {a3 : Nat} {a4 : Nat} {x5 : Int} {a6 : Nat} {xs0 : Int} {M : e_M} (C : f_Hy sh t yX0_moveBorder rm cs 8 (lX0_moveBorder c_X10_lot c_X0_areOwnersAble c_X0_isBarred c_X5_join c_X5_cut c_X10_at c_X8_has c_X3_holdsAny c_X9_isThere c_X3_copy) R) (h238 : ∀ (x1 : Int) (x2 : Int) (a3 : Nat) (a4 : Nat) (x5 : Int) (M : e_M), k238 x1 x2 a3 a4 x5 M → f_E sh t YX0_moveBorder rm cs (f_Q sh t R) 238 [.inr (.inr (.inl (0, 7, 4423))), .inl x1, .inl x2, .inr (.inr (.inl (4, 9, a3))), .inr (.inr (.inl (4, 9, a4))), .inl x5, .inr (.inr (.inr ())), .inr (.inr (.inr ()))] [] M) (h : VX0_moveBorder_214 c_X10_lot c_X0_areOwnersAble c_X0_isBarred c_X5_join c_X5_cut c_X10_at c_X8_has c_X3_holdsAny c_X9_isThere c_X3_copy k238 (fun r M => R (some (.inl r)) M) x1 x2 a3 a4 x5 a6 xs0 M) : f_E sh t YX0_moveBorder rm cs (f_Q sh t R) 214 [.inr (.inr (.inl (0, 7, 4423))), .inl x1, .inl x2, .inr (.inr (.inl (4, 9, a3))), .inr (.inr (.inl (4, 9, a4))), .inl x5, .inr (.inr (.inl (9, 14, a6))), .inr (.inr (.inr ()))] [.inl xs0] M :=
  f_go (KC := f_kc [(238, f_pl [(4433, 0, 7), (1, 0, 0), (1, 0, 0), (3, 4, 9), (3, 4, 9), (1, 0, 0), (0, 0, 0), (0, 0, 0)] [] (fun ls st M => k238 (f_vi (f_nth ls 1)) (f_vi (f_nth ls 2)) (f_va (f_nth ls 3)) (f_va (f_nth ls 4)) (f_vi (f_nth ls 5)) M))]) C qX0_moveBorderf (f_kc_cons (f_pl_ok rfl (fun ls st M h => h238 _ _ _ _ _ M h)) f_kc_nil) 143 113 h
set_option maxRecDepth 20000 in
theorem BX0_moveBorder_238 {sh : Nat → Nat × Nat} {t : Nat} {rm : Nat × Nat × Nat} {cs : Nat × Nat} {R : f_Rt} {c_X10_lot : Nat → Int → e_M → (Nat → Prop) → Prop} {c_X0_areOwnersAble : Int → e_M → (Int → Prop) → Prop} {c_X0_isBarred : Int → Int → e_M → (Int → Prop) → Prop} {c_X5_join : Nat → Nat → e_M → (Int → e_M → Prop) → Prop} {c_X5_cut : Nat → Nat → e_M → (Int → e_M → Prop) → Prop} {c_X10_at : Nat → Int → Int → e_M → (Nat → Prop) → Prop} {c_X8_has : Nat → Int → e_M → (Int → Prop) → Prop} {c_X3_holdsAny : Nat → Nat → e_M → (Int → Prop) → Prop} {c_X9_isThere : Nat → Int → e_M → (Int → Prop) → Prop} {c_X3_copy : Nat → Nat → e_M → (e_M → Prop) → Prop} {k123 : Int → Int → Nat → Nat → Int → e_M → Prop} {x1 : Int} {x2 : Int} {a3 : Nat} {a4 : Nat} {x5 : Int} {M : e_M} (C : f_Hy sh t yX0_moveBorder rm cs 8 (lX0_moveBorder c_X10_lot c_X0_areOwnersAble c_X0_isBarred c_X5_join c_X5_cut c_X10_at c_X8_has c_X3_holdsAny c_X9_isThere c_X3_copy) R) (h123 : ∀ (x1 : Int) (x2 : Int) (a3 : Nat) (a4 : Nat) (x5 : Int) (M : e_M), k123 x1 x2 a3 a4 x5 M → f_E sh t YX0_moveBorder rm cs (f_Q sh t R) 123 [.inr (.inr (.inl (0, 7, 4423))), .inl x1, .inl x2, .inr (.inr (.inl (4, 9, a3))), .inr (.inr (.inl (4, 9, a4))), .inl x5, .inr (.inr (.inr ())), .inr (.inr (.inr ()))] [] M) (h : VX0_moveBorder_238 c_X10_lot c_X0_areOwnersAble c_X0_isBarred c_X5_join c_X5_cut c_X10_at c_X8_has c_X3_holdsAny c_X9_isThere c_X3_copy k123 (fun r M => R (some (.inl r)) M) x1 x2 a3 a4 x5 M) : f_E sh t YX0_moveBorder rm cs (f_Q sh t R) 238 [.inr (.inr (.inl (0, 7, 4423))), .inl x1, .inl x2, .inr (.inr (.inl (4, 9, a3))), .inr (.inr (.inl (4, 9, a4))), .inl x5, .inr (.inr (.inr ())), .inr (.inr (.inr ()))] [] M :=
  f_go (KC := f_kc [(123, f_pl [(4433, 0, 7), (1, 0, 0), (1, 0, 0), (3, 4, 9), (3, 4, 9), (1, 0, 0), (0, 0, 0), (0, 0, 0)] [] (fun ls st M => k123 (f_vi (f_nth ls 1)) (f_vi (f_nth ls 2)) (f_va (f_nth ls 3)) (f_va (f_nth ls 4)) (f_vi (f_nth ls 5)) M))]) C qX0_moveBorderf (f_kc_cons (f_pl_ok rfl (fun ls st M h => h123 _ _ _ _ _ M h)) f_kc_nil) 143 125 h
set_option maxRecDepth 20000 in
theorem BX0_moveBorder {sh : Nat → Nat × Nat} {t : Nat} {rm : Nat × Nat × Nat} {cs : Nat × Nat} {R : f_Rt} {c_X10_lot : Nat → Int → e_M → (Nat → Prop) → Prop} {c_X0_areOwnersAble : Int → e_M → (Int → Prop) → Prop} {c_X0_isBarred : Int → Int → e_M → (Int → Prop) → Prop} {c_X5_join : Nat → Nat → e_M → (Int → e_M → Prop) → Prop} {c_X5_cut : Nat → Nat → e_M → (Int → e_M → Prop) → Prop} {c_X10_at : Nat → Int → Int → e_M → (Nat → Prop) → Prop} {c_X8_has : Nat → Int → e_M → (Int → Prop) → Prop} {c_X3_holdsAny : Nat → Nat → e_M → (Int → Prop) → Prop} {c_X9_isThere : Nat → Int → e_M → (Int → Prop) → Prop} {c_X3_copy : Nat → Nat → e_M → (e_M → Prop) → Prop} {k123 : Int → Int → Nat → Nat → Int → e_M → Prop} {M : e_M} (C : f_Hy sh t yX0_moveBorder rm cs 8 (lX0_moveBorder c_X10_lot c_X0_areOwnersAble c_X0_isBarred c_X5_join c_X5_cut c_X10_at c_X8_has c_X3_holdsAny c_X9_isThere c_X3_copy) R) (h123 : ∀ (x1 : Int) (x2 : Int) (a3 : Nat) (a4 : Nat) (x5 : Int) (M : e_M), k123 x1 x2 a3 a4 x5 M → f_E sh t YX0_moveBorder rm cs (f_Q sh t R) 123 [.inr (.inr (.inl (0, 7, 4423))), .inl x1, .inl x2, .inr (.inr (.inl (4, 9, a3))), .inr (.inr (.inl (4, 9, a4))), .inl x5, .inr (.inr (.inr ())), .inr (.inr (.inr ()))] [] M) (h : VX0_moveBorder c_X10_lot c_X0_areOwnersAble c_X0_isBarred c_X5_join c_X5_cut c_X10_at c_X8_has c_X3_holdsAny c_X9_isThere c_X3_copy k123 (fun r M => R (some (.inl r)) M) M) : f_E sh t YX0_moveBorder rm cs (f_Q sh t R) 0 [.inr (.inr (.inl (0, 7, 4423))), .inr (.inr (.inr ())), .inr (.inr (.inr ())), .inr (.inr (.inr ())), .inr (.inr (.inr ())), .inr (.inr (.inr ())), .inr (.inr (.inr ())), .inr (.inr (.inr ()))] [] M :=
  f_go (KC := f_kc [(123, f_pl [(4433, 0, 7), (1, 0, 0), (1, 0, 0), (3, 4, 9), (3, 4, 9), (1, 0, 0), (0, 0, 0), (0, 0, 0)] [] (fun ls st M => k123 (f_vi (f_nth ls 1)) (f_vi (f_nth ls 2)) (f_va (f_nth ls 3)) (f_va (f_nth ls 4)) (f_vi (f_nth ls 5)) M))]) C qX0_moveBorderf (f_kc_cons (f_pl_ok rfl (fun ls st M h => h123 _ _ _ _ _ M h)) f_kc_nil) 143 0 h
def WX0_moveBorder_238 (H123 : Int → Int → Nat → Nat → Int → e_M → Prop) (Q : Int → e_M → Prop) (x1 : Int) (x2 : Int) (a3 : Nat) (a4 : Nat) (x5 : Int) (M : e_M) : Prop :=
  VX0_moveBorder_238 WX10_lot WX0_areOwnersAble WX0_isBarred WX5_join WX5_cut WX10_at WX8_has WX3_holdsAny WX9_isThere WX3_copy H123 Q x1 x2 a3 a4 x5 M
def WX0_moveBorder_214 (H123 : Int → Int → Nat → Nat → Int → e_M → Prop) (Q : Int → e_M → Prop) (x1 : Int) (x2 : Int) (a3 : Nat) (a4 : Nat) (x5 : Int) (a6 : Nat) (xs0 : Int) (M : e_M) : Prop :=
  VX0_moveBorder_214 WX10_lot WX0_areOwnersAble WX0_isBarred WX5_join WX5_cut WX10_at WX8_has WX3_holdsAny WX9_isThere WX3_copy (WX0_moveBorder_238 H123 Q) Q x1 x2 a3 a4 x5 a6 xs0 M
def WX0_moveBorder_209 (H123 : Int → Int → Nat → Nat → Int → e_M → Prop) (Q : Int → e_M → Prop) (x1 : Int) (x2 : Int) (a3 : Nat) (a4 : Nat) (x5 : Int) (a6 : Nat) (M : e_M) : Prop :=
  VX0_moveBorder_209 WX10_lot WX0_areOwnersAble WX0_isBarred WX5_join WX5_cut WX10_at WX8_has WX3_holdsAny WX9_isThere WX3_copy (WX0_moveBorder_214 H123 Q) Q x1 x2 a3 a4 x5 a6 M
def WX0_moveBorder_213 (H123 : Int → Int → Nat → Nat → Int → e_M → Prop) (Q : Int → e_M → Prop) (x1 : Int) (x2 : Int) (a3 : Nat) (a4 : Nat) (x5 : Int) (a6 : Nat) (M : e_M) : Prop :=
  VX0_moveBorder_213 WX10_lot WX0_areOwnersAble WX0_isBarred WX5_join WX5_cut WX10_at WX8_has WX3_holdsAny WX9_isThere WX3_copy (WX0_moveBorder_214 H123 Q) Q x1 x2 a3 a4 x5 a6 M
def WX0_moveBorder_179 (H123 : Int → Int → Nat → Nat → Int → e_M → Prop) (Q : Int → e_M → Prop) (x1 : Int) (x2 : Int) (a3 : Nat) (a4 : Nat) (x5 : Int) (a6 : Nat) (M : e_M) : Prop :=
  VX0_moveBorder_179 WX10_lot WX0_areOwnersAble WX0_isBarred WX5_join WX5_cut WX10_at WX8_has WX3_holdsAny WX9_isThere WX3_copy (WX0_moveBorder_213 H123 Q) (WX0_moveBorder_209 H123 Q) Q x1 x2 a3 a4 x5 a6 M
def WX0_moveBorder_123 (Q : Int → e_M → Prop) : Nat → Int → Int → Nat → Nat → Int → e_M → Prop
  | 0, _, _, _, _, _, _ => False
  | n + 1, x1, x2, a3, a4, x5, M =>
    VX0_moveBorder_123 WX10_lot WX0_areOwnersAble WX0_isBarred WX5_join WX5_cut WX10_at WX8_has WX3_holdsAny WX9_isThere WX3_copy (WX0_moveBorder_179 (WX0_moveBorder_123 Q n) Q) (WX0_moveBorder_209 (WX0_moveBorder_123 Q n) Q) Q x1 x2 a3 a4 x5 M
def WX0_moveBorder (M : e_M) (Q : Int → e_M → Prop) : Prop :=
  VX0_moveBorder WX10_lot WX0_areOwnersAble WX0_isBarred WX5_join WX5_cut WX10_at WX8_has WX3_holdsAny WX9_isThere WX3_copy (fun x1 x2 a3 a4 x5 M => ∃ j, WX0_moveBorder_123 Q j x1 x2 a3 a4 x5 M) Q M
theorem PX0_moveBorder_238 {sh : Nat → Nat × Nat} {t : Nat} {rm : Nat × Nat × Nat} {cs : Nat × Nat} {R : f_Rt} {H123 : Int → Int → Nat → Nat → Int → e_M → Prop} {x1 : Int} {x2 : Int} {a3 : Nat} {a4 : Nat} {x5 : Int} {M : e_M} (C : f_Hy sh t yX0_moveBorder rm cs 8 (lX0_moveBorder WX10_lot WX0_areOwnersAble WX0_isBarred WX5_join WX5_cut WX10_at WX8_has WX3_holdsAny WX9_isThere WX3_copy) R) (g123 : ∀ (x1 : Int) (x2 : Int) (a3 : Nat) (a4 : Nat) (x5 : Int) (M : e_M), H123 x1 x2 a3 a4 x5 M → f_E sh t YX0_moveBorder rm cs (f_Q sh t R) 123 [.inr (.inr (.inl (0, 7, 4423))), .inl x1, .inl x2, .inr (.inr (.inl (4, 9, a3))), .inr (.inr (.inl (4, 9, a4))), .inl x5, .inr (.inr (.inr ())), .inr (.inr (.inr ()))] [] M) (h : WX0_moveBorder_238 H123 (fun r M => R (some (.inl r)) M) x1 x2 a3 a4 x5 M) : f_E sh t YX0_moveBorder rm cs (f_Q sh t R) 238 [.inr (.inr (.inl (0, 7, 4423))), .inl x1, .inl x2, .inr (.inr (.inl (4, 9, a3))), .inr (.inr (.inl (4, 9, a4))), .inl x5, .inr (.inr (.inr ())), .inr (.inr (.inr ()))] [] M :=
  BX0_moveBorder_238 C g123 h
theorem PX0_moveBorder_214 {sh : Nat → Nat × Nat} {t : Nat} {rm : Nat × Nat × Nat} {cs : Nat × Nat} {R : f_Rt} {H123 : Int → Int → Nat → Nat → Int → e_M → Prop} {x1 : Int} {x2 : Int} {a3 : Nat} {a4 : Nat} {x5 : Int} {a6 : Nat} {xs0 : Int} {M : e_M} (C : f_Hy sh t yX0_moveBorder rm cs 8 (lX0_moveBorder WX10_lot WX0_areOwnersAble WX0_isBarred WX5_join WX5_cut WX10_at WX8_has WX3_holdsAny WX9_isThere WX3_copy) R) (g123 : ∀ (x1 : Int) (x2 : Int) (a3 : Nat) (a4 : Nat) (x5 : Int) (M : e_M), H123 x1 x2 a3 a4 x5 M → f_E sh t YX0_moveBorder rm cs (f_Q sh t R) 123 [.inr (.inr (.inl (0, 7, 4423))), .inl x1, .inl x2, .inr (.inr (.inl (4, 9, a3))), .inr (.inr (.inl (4, 9, a4))), .inl x5, .inr (.inr (.inr ())), .inr (.inr (.inr ()))] [] M) (h : WX0_moveBorder_214 H123 (fun r M => R (some (.inl r)) M) x1 x2 a3 a4 x5 a6 xs0 M) : f_E sh t YX0_moveBorder rm cs (f_Q sh t R) 214 [.inr (.inr (.inl (0, 7, 4423))), .inl x1, .inl x2, .inr (.inr (.inl (4, 9, a3))), .inr (.inr (.inl (4, 9, a4))), .inl x5, .inr (.inr (.inl (9, 14, a6))), .inr (.inr (.inr ()))] [.inl xs0] M :=
  BX0_moveBorder_214 C (fun x1 x2 a3 a4 x5 M h => PX0_moveBorder_238 C g123 h) h
theorem PX0_moveBorder_209 {sh : Nat → Nat × Nat} {t : Nat} {rm : Nat × Nat × Nat} {cs : Nat × Nat} {R : f_Rt} {H123 : Int → Int → Nat → Nat → Int → e_M → Prop} {x1 : Int} {x2 : Int} {a3 : Nat} {a4 : Nat} {x5 : Int} {a6 : Nat} {M : e_M} (C : f_Hy sh t yX0_moveBorder rm cs 8 (lX0_moveBorder WX10_lot WX0_areOwnersAble WX0_isBarred WX5_join WX5_cut WX10_at WX8_has WX3_holdsAny WX9_isThere WX3_copy) R) (g123 : ∀ (x1 : Int) (x2 : Int) (a3 : Nat) (a4 : Nat) (x5 : Int) (M : e_M), H123 x1 x2 a3 a4 x5 M → f_E sh t YX0_moveBorder rm cs (f_Q sh t R) 123 [.inr (.inr (.inl (0, 7, 4423))), .inl x1, .inl x2, .inr (.inr (.inl (4, 9, a3))), .inr (.inr (.inl (4, 9, a4))), .inl x5, .inr (.inr (.inr ())), .inr (.inr (.inr ()))] [] M) (h : WX0_moveBorder_209 H123 (fun r M => R (some (.inl r)) M) x1 x2 a3 a4 x5 a6 M) : f_E sh t YX0_moveBorder rm cs (f_Q sh t R) 209 [.inr (.inr (.inl (0, 7, 4423))), .inl x1, .inl x2, .inr (.inr (.inl (4, 9, a3))), .inr (.inr (.inl (4, 9, a4))), .inl x5, .inr (.inr (.inl (9, 14, a6))), .inr (.inr (.inr ()))] [] M :=
  BX0_moveBorder_209 C (fun x1 x2 a3 a4 x5 a6 xs0 M h => PX0_moveBorder_214 C g123 h) h
theorem PX0_moveBorder_213 {sh : Nat → Nat × Nat} {t : Nat} {rm : Nat × Nat × Nat} {cs : Nat × Nat} {R : f_Rt} {H123 : Int → Int → Nat → Nat → Int → e_M → Prop} {x1 : Int} {x2 : Int} {a3 : Nat} {a4 : Nat} {x5 : Int} {a6 : Nat} {M : e_M} (C : f_Hy sh t yX0_moveBorder rm cs 8 (lX0_moveBorder WX10_lot WX0_areOwnersAble WX0_isBarred WX5_join WX5_cut WX10_at WX8_has WX3_holdsAny WX9_isThere WX3_copy) R) (g123 : ∀ (x1 : Int) (x2 : Int) (a3 : Nat) (a4 : Nat) (x5 : Int) (M : e_M), H123 x1 x2 a3 a4 x5 M → f_E sh t YX0_moveBorder rm cs (f_Q sh t R) 123 [.inr (.inr (.inl (0, 7, 4423))), .inl x1, .inl x2, .inr (.inr (.inl (4, 9, a3))), .inr (.inr (.inl (4, 9, a4))), .inl x5, .inr (.inr (.inr ())), .inr (.inr (.inr ()))] [] M) (h : WX0_moveBorder_213 H123 (fun r M => R (some (.inl r)) M) x1 x2 a3 a4 x5 a6 M) : f_E sh t YX0_moveBorder rm cs (f_Q sh t R) 213 [.inr (.inr (.inl (0, 7, 4423))), .inl x1, .inl x2, .inr (.inr (.inl (4, 9, a3))), .inr (.inr (.inl (4, 9, a4))), .inl x5, .inr (.inr (.inl (9, 14, a6))), .inr (.inr (.inr ()))] [] M :=
  BX0_moveBorder_213 C (fun x1 x2 a3 a4 x5 a6 xs0 M h => PX0_moveBorder_214 C g123 h) h
theorem PX0_moveBorder_179 {sh : Nat → Nat × Nat} {t : Nat} {rm : Nat × Nat × Nat} {cs : Nat × Nat} {R : f_Rt} {H123 : Int → Int → Nat → Nat → Int → e_M → Prop} {x1 : Int} {x2 : Int} {a3 : Nat} {a4 : Nat} {x5 : Int} {a6 : Nat} {M : e_M} (C : f_Hy sh t yX0_moveBorder rm cs 8 (lX0_moveBorder WX10_lot WX0_areOwnersAble WX0_isBarred WX5_join WX5_cut WX10_at WX8_has WX3_holdsAny WX9_isThere WX3_copy) R) (g123 : ∀ (x1 : Int) (x2 : Int) (a3 : Nat) (a4 : Nat) (x5 : Int) (M : e_M), H123 x1 x2 a3 a4 x5 M → f_E sh t YX0_moveBorder rm cs (f_Q sh t R) 123 [.inr (.inr (.inl (0, 7, 4423))), .inl x1, .inl x2, .inr (.inr (.inl (4, 9, a3))), .inr (.inr (.inl (4, 9, a4))), .inl x5, .inr (.inr (.inr ())), .inr (.inr (.inr ()))] [] M) (h : WX0_moveBorder_179 H123 (fun r M => R (some (.inl r)) M) x1 x2 a3 a4 x5 a6 M) : f_E sh t YX0_moveBorder rm cs (f_Q sh t R) 179 [.inr (.inr (.inl (0, 7, 4423))), .inl x1, .inl x2, .inr (.inr (.inl (4, 9, a3))), .inr (.inr (.inl (4, 9, a4))), .inl x5, .inr (.inr (.inl (9, 14, a6))), .inr (.inr (.inr ()))] [] M :=
  BX0_moveBorder_179 C (fun x1 x2 a3 a4 x5 a6 M h => PX0_moveBorder_213 C g123 h) (fun x1 x2 a3 a4 x5 a6 M h => PX0_moveBorder_209 C g123 h) h
theorem PX0_moveBorder_123 {sh : Nat → Nat × Nat} {t : Nat} {rm : Nat × Nat × Nat} {cs : Nat × Nat} {R : f_Rt} (C : f_Hy sh t yX0_moveBorder rm cs 8 (lX0_moveBorder WX10_lot WX0_areOwnersAble WX0_isBarred WX5_join WX5_cut WX10_at WX8_has WX3_holdsAny WX9_isThere WX3_copy) R) : ∀ (n : Nat) (x1 : Int) (x2 : Int) (a3 : Nat) (a4 : Nat) (x5 : Int) (M : e_M), WX0_moveBorder_123 (fun r M => R (some (.inl r)) M) n x1 x2 a3 a4 x5 M → f_E sh t YX0_moveBorder rm cs (f_Q sh t R) 123 [.inr (.inr (.inl (0, 7, 4423))), .inl x1, .inl x2, .inr (.inr (.inl (4, 9, a3))), .inr (.inr (.inl (4, 9, a4))), .inl x5, .inr (.inr (.inr ())), .inr (.inr (.inr ()))] [] M := by
  intro n
  induction n with
  | zero => intro x1 x2 a3 a4 x5 M h; exact h.elim
  | succ n ih => intro x1 x2 a3 a4 x5 M h; exact BX0_moveBorder_123 C (fun x1 x2 a3 a4 x5 a6 M h => PX0_moveBorder_179 C ih h) (fun x1 x2 a3 a4 x5 a6 M h => PX0_moveBorder_209 C ih h) h
theorem PX0_moveBorder {sh : Nat → Nat × Nat} {t : Nat} {rm : Nat × Nat × Nat} {cs : Nat × Nat} {R : f_Rt} {M : e_M} (C : f_Hy sh t yX0_moveBorder rm cs 8 (lX0_moveBorder WX10_lot WX0_areOwnersAble WX0_isBarred WX5_join WX5_cut WX10_at WX8_has WX3_holdsAny WX9_isThere WX3_copy) R) (h : WX0_moveBorder M (fun r M => R (some (.inl r)) M)) : f_E sh t YX0_moveBorder rm cs (f_Q sh t R) 0 [.inr (.inr (.inl (0, 7, 4423))), .inr (.inr (.inr ())), .inr (.inr (.inr ())), .inr (.inr (.inr ())), .inr (.inr (.inr ())), .inr (.inr (.inr ())), .inr (.inr (.inr ())), .inr (.inr (.inr ()))] [] M :=
  BX0_moveBorder C (fun x1 x2 a3 a4 x5 M ⟨j, h⟩ => PX0_moveBorder_123 C j _ _ _ _ _ _ h) h
def wX0_moveBorder : f_Wt := f_wm [(4433, 0, 7)] (fun ar M R => WX0_moveBorder M (fun r M => R (some (.inl r)) M))
theorem TX0_moveBorder {sh : Nat → Nat × Nat} {t : Nat} : f_Mt sh t YX0_moveBorder 8 (wX0_moveBorder) :=
  f_Mt_of (k := 7) (Nat.le_of_ble_eq_true rfl) rfl rfl (fun ar M R rm cs h1 h2 h3 hX h => PX0_moveBorder ⟨Nat.le_of_ble_eq_true rfl, h1, h2, h3, ⟨(f_Mt.up (Nat.le_of_ble_eq_true rfl) TX10_lot), (f_Mt.up (Nat.le_of_ble_eq_true rfl) TX0_areOwnersAble), (f_Mt.up (Nat.le_of_ble_eq_true rfl) TX0_isBarred), (f_Mt.up (Nat.le_of_ble_eq_true rfl) TX5_join), (f_Mt.up (Nat.le_of_ble_eq_true rfl) TX5_cut), (f_Mt.up (Nat.le_of_ble_eq_true rfl) TX10_at), (f_Mt.up (Nat.le_of_ble_eq_true rfl) TX8_has), (f_Mt.up (Nat.le_of_ble_eq_true rfl) TX3_holdsAny), (f_Mt.up (Nat.le_of_ble_eq_true rfl) TX9_isThere), (f_Mt.up (Nat.le_of_ble_eq_true rfl) TX3_copy), trivial⟩, hX⟩ h)
def VX0_charge_27 (c_X10_isFull : Nat → Int → e_M → (Int → Prop) → Prop) (c_X0_areOwnersAble : Int → e_M → (Int → Prop) → Prop) (c_X0_isBarred : Int → Int → e_M → (Int → Prop) → Prop) (c_X10_lot : Nat → Int → e_M → (Nat → Prop) → Prop) (c_X0_make : Int → e_M → (Nat → e_M → Prop) → Prop) (c_X8_add : Nat → Int → e_M → (e_M → Prop) → Prop) (k242 : Int → Int → Nat → Int → e_M → Prop) (k36 : Int → Int → Int → Int → Int → Int → e_M → Prop) (Q : Int → e_M → Prop) (x1 : Int) (x2 : Int) (x3 : Int) (x4 : Int) (x5 : Int) (M : e_M) : Prop :=
  ((x1 ≤ x5 → ((¬ x2 = 0 → ((x3 = 0 → ((¬ (M ((M 4423 1).toNat) 9) = 0 → ((¬ x4 = 0 → (Q 7 M)) ∧ (x4 = 0 → ((1 ≤ x1 → ((0 ≤ (2 : Int) ∧ (2 : Int) < 8) ∧ (∀ y1 : Int, y1 = M ((M 4423 0).toNat + 24) ((2 : Int).toNat) → (c_X0_make 2 M (fun r2 M3 => ((0 ≤ x1 ∧ x1 < 8) ∧ (∀ M4 : e_M, M4 = e_up M3 r2 5 (M3 4425 (x1.toNat)) → (∀ M5 : e_M, M5 = e_up M4 r2 6 (M4 ((M4 4423 1).toNat) 9) → (k242 x1 y1 r2 1 M5))))))))) ∧ (x1 < 1 → (Q 7 M)))))) ∧ ((M ((M 4423 1).toNat) 9) = 0 → (Q 6 M)))) ∧ (¬ x3 = 0 → (Q 4 M)))) ∧ (x2 = 0 → (Q 2 M)))) ∧ (x5 < x1 → (k36 x1 x2 x3 x4 x5 1 M)))
def VX0_charge_36 (c_X10_isFull : Nat → Int → e_M → (Int → Prop) → Prop) (c_X0_areOwnersAble : Int → e_M → (Int → Prop) → Prop) (c_X0_isBarred : Int → Int → e_M → (Int → Prop) → Prop) (c_X10_lot : Nat → Int → e_M → (Nat → Prop) → Prop) (c_X0_make : Int → e_M → (Nat → e_M → Prop) → Prop) (c_X8_add : Nat → Int → e_M → (e_M → Prop) → Prop) (k90 : Int → Int → Int → Int → e_M → Prop) (k91 : Int → Int → Int → Int → Int → e_M → Prop) (k36 : Int → Int → Int → Int → Int → Int → e_M → Prop) (Q : Int → e_M → Prop) (x1 : Int) (x2 : Int) (x3 : Int) (x4 : Int) (x5 : Int) (x6 : Int) (M : e_M) : Prop :=
  ((x5 ≤ x6 → ((x2 = 0 → (k90 x1 x3 x4 x5 M)) ∧ (¬ x2 = 0 → ((0 ≤ x5 ∧ x5 < 8) ∧ (c_X0_areOwnersAble (M 4425 (x5.toNat)) M (fun r1 => ((r1 = 0 → (k90 x1 x3 x4 x5 M)) ∧ (¬ r1 = 0 → (k91 x1 x3 x4 x5 1 M))))))))) ∧ (x6 < x5 → ((0 ≤ x5 ∧ x5 < 8) ∧ ((0 ≤ x6 ∧ x6 < 8) ∧ ((¬ (M 4425 (x5.toNat)) = (M 4425 (x6.toNat)) → (k36 x1 x2 x3 x4 x5 (e_w32 (x6 + 1)) M)) ∧ ((M 4425 (x5.toNat)) = (M 4425 (x6.toNat)) → (Q 1 M)))))))
def VX0_charge_90 (c_X10_isFull : Nat → Int → e_M → (Int → Prop) → Prop) (c_X0_areOwnersAble : Int → e_M → (Int → Prop) → Prop) (c_X0_isBarred : Int → Int → e_M → (Int → Prop) → Prop) (c_X10_lot : Nat → Int → e_M → (Nat → Prop) → Prop) (c_X0_make : Int → e_M → (Nat → e_M → Prop) → Prop) (c_X8_add : Nat → Int → e_M → (e_M → Prop) → Prop) (k91 : Int → Int → Int → Int → Int → e_M → Prop) (Q : Int → e_M → Prop) (x1 : Int) (x3 : Int) (x4 : Int) (x5 : Int) (M : e_M) : Prop :=
  (k91 x1 x3 x4 x5 0 M)
def VX0_charge_91 (c_X10_isFull : Nat → Int → e_M → (Int → Prop) → Prop) (c_X0_areOwnersAble : Int → e_M → (Int → Prop) → Prop) (c_X0_isBarred : Int → Int → e_M → (Int → Prop) → Prop) (c_X10_lot : Nat → Int → e_M → (Nat → Prop) → Prop) (c_X0_make : Int → e_M → (Nat → e_M → Prop) → Prop) (c_X8_add : Nat → Int → e_M → (e_M → Prop) → Prop) (k111 : Int → Int → Int → Int → e_M → Prop) (k116 : Int → Int → Int → Int → Int → e_M → Prop) (Q : Int → e_M → Prop) (x1 : Int) (x3 : Int) (x4 : Int) (x5 : Int) (xs0 : Int) (M : e_M) : Prop :=
  ((¬ x3 = 0 → (k111 x1 xs0 x4 x5 M)) ∧ (x3 = 0 → ((0 ≤ x5 ∧ x5 < 8) ∧ (c_X0_isBarred (M 4425 (x5.toNat)) (-1) M (fun r1 => ((r1 = 0 → (k116 x1 xs0 x4 x5 0 M)) ∧ (¬ r1 = 0 → (k111 x1 xs0 x4 x5 M))))))))
def VX0_charge_111 (c_X10_isFull : Nat → Int → e_M → (Int → Prop) → Prop) (c_X0_areOwnersAble : Int → e_M → (Int → Prop) → Prop) (c_X0_isBarred : Int → Int → e_M → (Int → Prop) → Prop) (c_X10_lot : Nat → Int → e_M → (Nat → Prop) → Prop) (c_X0_make : Int → e_M → (Nat → e_M → Prop) → Prop) (c_X8_add : Nat → Int → e_M → (e_M → Prop) → Prop) (k116 : Int → Int → Int → Int → Int → e_M → Prop) (Q : Int → e_M → Prop) (x1 : Int) (x2 : Int) (x4 : Int) (x5 : Int) (M : e_M) : Prop :=
  (k116 x1 x2 x4 x5 1 M)
def VX0_charge_116 (c_X10_isFull : Nat → Int → e_M → (Int → Prop) → Prop) (c_X0_areOwnersAble : Int → e_M → (Int → Prop) → Prop) (c_X0_isBarred : Int → Int → e_M → (Int → Prop) → Prop) (c_X10_lot : Nat → Int → e_M → (Nat → Prop) → Prop) (c_X0_make : Int → e_M → (Nat → e_M → Prop) → Prop) (c_X8_add : Nat → Int → e_M → (e_M → Prop) → Prop) (k147 : Int → Int → Int → Int → e_M → Prop) (k152 : Int → Int → Int → Int → Int → e_M → Prop) (Q : Int → e_M → Prop) (x1 : Int) (x2 : Int) (x4 : Int) (x5 : Int) (xs0 : Int) (M : e_M) : Prop :=
  ((¬ x4 = 0 → (k147 x1 x2 xs0 x5 M)) ∧ (x4 = 0 → ((0 ≤ x5 ∧ x5 < 8) ∧ (c_X10_lot ((M 4423 0).toNat) (M 4425 (x5.toNat)) M (fun r1 => (((M (r1 + 4) 1) < 8 → (k152 x1 x2 xs0 x5 0 M)) ∧ (8 ≤ (M (r1 + 4) 1) → (k147 x1 x2 xs0 x5 M))))))))
def VX0_charge_147 (c_X10_isFull : Nat → Int → e_M → (Int → Prop) → Prop) (c_X0_areOwnersAble : Int → e_M → (Int → Prop) → Prop) (c_X0_isBarred : Int → Int → e_M → (Int → Prop) → Prop) (c_X10_lot : Nat → Int → e_M → (Nat → Prop) → Prop) (c_X0_make : Int → e_M → (Nat → e_M → Prop) → Prop) (c_X8_add : Nat → Int → e_M → (e_M → Prop) → Prop) (k152 : Int → Int → Int → Int → Int → e_M → Prop) (Q : Int → e_M → Prop) (x1 : Int) (x2 : Int) (x3 : Int) (x5 : Int) (M : e_M) : Prop :=
  (k152 x1 x2 x3 x5 1 M)
def VX0_charge_152 (c_X10_isFull : Nat → Int → e_M → (Int → Prop) → Prop) (c_X0_areOwnersAble : Int → e_M → (Int → Prop) → Prop) (c_X0_isBarred : Int → Int → e_M → (Int → Prop) → Prop) (c_X10_lot : Nat → Int → e_M → (Nat → Prop) → Prop) (c_X0_make : Int → e_M → (Nat → e_M → Prop) → Prop) (c_X8_add : Nat → Int → e_M → (e_M → Prop) → Prop) (k27 : Int → Int → Int → Int → Int → e_M → Prop) (Q : Int → e_M → Prop) (x1 : Int) (x2 : Int) (x3 : Int) (x5 : Int) (xs0 : Int) (M : e_M) : Prop :=
  (k27 x1 x2 x3 xs0 (e_w32 (x5 + 1)) M)
def VX0_charge_242 (c_X10_isFull : Nat → Int → e_M → (Int → Prop) → Prop) (c_X0_areOwnersAble : Int → e_M → (Int → Prop) → Prop) (c_X0_isBarred : Int → Int → e_M → (Int → Prop) → Prop) (c_X10_lot : Nat → Int → e_M → (Nat → Prop) → Prop) (c_X0_make : Int → e_M → (Nat → e_M → Prop) → Prop) (c_X8_add : Nat → Int → e_M → (e_M → Prop) → Prop) (k242 : Int → Int → Nat → Int → e_M → Prop) (Q : Int → e_M → Prop) (x1 : Int) (x5 : Int) (a6 : Nat) (x7 : Int) (M : e_M) : Prop :=
  ((x1 ≤ x7 → (Q 0 M)) ∧ (x7 < x1 → ((0 ≤ x7 ∧ x7 < 8) ∧ (c_X8_add ((M a6 9).toNat) (M 4425 (x7.toNat)) M (fun M1 => ((0 ≤ x7 ∧ x7 < 8) ∧ (c_X10_lot ((M1 4423 0).toNat) (M1 4425 (x7.toNat)) M1 (fun r2 => (c_X8_add (r2 + 4) x5 M1 (fun M3 => (k242 x1 x5 a6 (e_w32 (x7 + 1)) M3)))))))))))
def VX0_charge (c_X10_isFull : Nat → Int → e_M → (Int → Prop) → Prop) (c_X0_areOwnersAble : Int → e_M → (Int → Prop) → Prop) (c_X0_isBarred : Int → Int → e_M → (Int → Prop) → Prop) (c_X10_lot : Nat → Int → e_M → (Nat → Prop) → Prop) (c_X0_make : Int → e_M → (Nat → e_M → Prop) → Prop) (c_X8_add : Nat → Int → e_M → (e_M → Prop) → Prop) (k27 : Int → Int → Int → Int → Int → e_M → Prop) (Q : Int → e_M → Prop) (M : e_M) : Prop :=
  (∀ y1 : Int, y1 = e_w32 ((M ((M 4423 1).toNat) 7) - 1) → (c_X10_isFull ((M 4423 0).toNat) 2 M (fun r2 => (k27 y1 1 0 r2 1 M))))
def yX0_charge (i : Nat) : e_Y := x_get YX0_charge [YX10_isFull, YX0_areOwnersAble, YX0_isBarred, YX10_lot, YX0_make, YX8_add] i
def pX0_chargef : List x_I := [(0, 4, 1, 0, 0, 0, []), (1, 25, 0, 1, 4, 0, [(0, 2, 19), (0, 0, 0)]), (4, 25, 2, 7, 0, 0, []), (7, 0, 1, 0, 0, 1, []), (8, 9, 0, 1, 0, 0, []), (9, 33, 0, 0, 0, 0, []), (9, 5, 1, 1, 0, 0, []), (10, 0, 1, 0, 0, 1, []), (11, 5, 1, 2, 0, 0, []), (12, 0, 1, 0, 0, 0, []), (13, 5, 1, 3, 0, 0, []), (14, 4, 1, 0, 0, 0, []), (15, 25, 0, 0, 4, 0, [(0, 10, 15), (0, 0, 0)]), (18, 0, 1, 0, 0, 2, []), (19, 40, 0, 2, 12, 0, []), (22, 5, 2, 4, 0, 0, []), (24, 0, 1, 0, 0, 1, []), (25, 5, 2, 5, 0, 0, []), (27, 49, 0, 0, 0, 0, []), (27, 2, 2, 5, 0, 0, []), (29, 2, 1, 1, 0, 0, []), (30, 18, 160, 3, 94, 0, []), (33, 0, 1, 0, 0, 1, []), (34, 5, 2, 6, 0, 0, []), (36, 49, 0, 0, 0, 0, []), (36, 2, 2, 6, 0, 0, []), (38, 2, 2, 5, 0, 0, []), (40, 18, 68, 3, 42, 0, []), (43, 4, 1, 0, 0, 0, []), (44, 25, 0, 4, 4, 0, [(0, 20, 8), (0, 1, 2)]), (47, 2, 2, 5, 0, 0, []), (49, 27, 0, 0, 0, 0, []), (50, 4, 1, 0, 0, 0, []), (51, 25, 0, 4, 4, 0, [(0, 20, 8), (0, 1, 2)]), (54, 2, 2, 6, 0, 0, []), (56, 27, 0, 0, 0, 0, []), (57, 18, 62, 1, 40, 0, []), (60, 0, 1, 0, 0, 1, []), (61, 41, 0, 0, 0, 0, []), (62, 8, 0, 6, 0, 1, []), (65, 19, 36, 0, 25, 0, []), (68, 2, 1, 2, 0, 0, []), (69, 17, 90, 0, 53, 0, []), (72, 4, 1, 0, 0, 0, []), (73, 4, 1, 0, 0, 0, []), (74, 25, 0, 4, 4, 0, [(0, 20, 8), (0, 1, 2)]), (77, 2, 2, 5, 0, 0, []), (79, 27, 0, 0, 0, 0, []), (80, 40, 1, 2, 2, 0, []), (83, 17, 90, 0, 53, 0, []), (86, 0, 1, 0, 0, 1, []), (87, 19, 91, 0, 55, 0, []), (90, 49, 0, 0, 0, 0, []), (90, 0, 1, 0, 0, 0, []), (91, 49, 0, 0, 0, 0, []), (91, 5, 1, 2, 0, 0, []), (92, 2, 1, 3, 0, 0, []), (93, 17, 111, 1, 67, 0, []), (96, 4, 1, 0, 0, 0, []), (97, 4, 1, 0, 0, 0, []), (98, 25, 0, 4, 4, 0, [(0, 20, 8), (0, 1, 2)]), (101, 2, 2, 5, 0, 0, []), (103, 27, 0, 0, 0, 0, []), (104, 0, 1, 0, 0, (-1), []), (105, 40, 2, 3, 2, 0, []), (108, 17, 115, 0, 70, 0, []), (111, 49, 0, 0, 0, 0, []), (111, 0, 1, 0, 0, 1, []), (112, 19, 116, 0, 71, 0, []), (115, 0, 1, 0, 0, 0, []), (116, 49, 0, 0, 0, 0, []), (116, 5, 1, 3, 0, 0, []), (117, 2, 2, 4, 0, 0, []), (119, 17, 147, 1, 86, 0, []), (122, 4, 1, 0, 0, 0, []), (123, 25, 0, 0, 4, 0, [(0, 10, 15), (0, 0, 0)]), (126, 4, 1, 0, 0, 0, []), (127, 25, 0, 4, 4, 0, [(0, 20, 8), (0, 1, 2)]), (130, 2, 2, 5, 0, 0, []), (132, 27, 0, 0, 0, 0, []), (133, 40, 3, 2, 12, 0, []), (136, 25, 4, 4, 4, 0, [(0, 8, 2), (0, 1, 4)]), (139, 25, 8, 1, 0, 0, []), (142, 0, 2, 0, 0, 8, []), (144, 18, 151, 2, 89, 0, []), (147, 49, 0, 0, 0, 0, []), (147, 0, 1, 0, 0, 1, []), (148, 19, 152, 0, 90, 0, []), (151, 0, 1, 0, 0, 0, []), (152, 49, 0, 0, 0, 0, []), (152, 5, 2, 4, 0, 0, []), (154, 8, 0, 5, 0, 1, []), (157, 19, 27, 0, 19, 0, []), (160, 2, 1, 2, 0, 0, []), (161, 17, 166, 1, 98, 0, []), (164, 0, 1, 0, 0, 2, []), (165, 41, 0, 0, 0, 0, []), (166, 2, 1, 3, 0, 0, []), (167, 17, 172, 0, 102, 0, []), (170, 0, 1, 0, 0, 4, []), (171, 41, 0, 0, 0, 0, []), (172, 4, 1, 0, 0, 0, []), (173, 25, 0, 1, 4, 0, [(0, 2, 19), (0, 0, 0)]), (176, 25, 2, 9, 0, 0, []), (179, 17, 185, 1, 108, 0, []), (182, 0, 2, 0, 0, 6, []), (184, 41, 0, 0, 0, 0, []), (185, 2, 2, 4, 0, 0, []), (187, 17, 195, 1, 113, 0, []), (190, 2, 1, 1, 0, 0, []), (191, 0, 1, 0, 0, 1, []), (192, 18, 198, 3, 115, 0, []), (195, 0, 2, 0, 0, 7, []), (197, 41, 0, 0, 0, 0, []), (198, 4, 1, 0, 0, 0, []), (199, 25, 0, 0, 4, 0, [(0, 10, 15), (0, 0, 0)]), (202, 25, 10, 4, 4, 0, [(0, 20, 8), (0, 1, 24)]), (205, 0, 1, 0, 0, 2, []), (206, 27, 0, 0, 0, 0, []), (207, 33, 0, 0, 0, 0, []), (207, 5, 2, 5, 0, 0, []), (209, 4, 1, 0, 0, 0, []), (210, 0, 1, 0, 0, 2, []), (211, 40, 4, 2, 2, 0, []), (214, 7, 2, 6, 0, 0, []), (216, 4, 2, 6, 0, 0, []), (218, 4, 1, 0, 0, 0, []), (219, 25, 0, 4, 4, 0, [(0, 20, 8), (0, 1, 2)]), (222, 2, 1, 1, 0, 0, []), (223, 27, 0, 0, 0, 0, []), (224, 26, 9, 5, 0, 0, []), (227, 4, 2, 6, 0, 0, []), (229, 4, 1, 0, 0, 0, []), (230, 25, 0, 1, 4, 0, [(0, 2, 19), (0, 0, 0)]), (233, 25, 2, 9, 0, 0, []), (236, 26, 9, 6, 0, 0, []), (239, 0, 1, 0, 0, 1, []), (240, 5, 2, 7, 0, 0, []), (242, 49, 0, 0, 0, 0, []), (242, 2, 2, 7, 0, 0, []), (244, 2, 1, 1, 0, 0, []), (245, 18, 291, 3, 162, 0, []), (248, 4, 2, 6, 0, 0, []), (250, 25, 9, 9, 4, 0, [(0, 8, 2), (0, 0, 0)]), (253, 4, 1, 0, 0, 0, []), (254, 25, 0, 4, 4, 0, [(0, 20, 8), (0, 1, 2)]), (257, 2, 2, 7, 0, 0, []), (259, 27, 0, 0, 0, 0, []), (260, 40, 5, 2, 10, 0, []), (263, 4, 1, 0, 0, 0, []), (264, 25, 0, 0, 4, 0, [(0, 10, 15), (0, 0, 0)]), (267, 4, 1, 0, 0, 0, []), (268, 25, 0, 4, 4, 0, [(0, 20, 8), (0, 1, 2)]), (271, 2, 2, 7, 0, 0, []), (273, 27, 0, 0, 0, 0, []), (274, 40, 3, 2, 12, 0, []), (277, 25, 4, 4, 4, 0, [(0, 8, 2), (0, 1, 4)]), (280, 2, 2, 5, 0, 0, []), (282, 40, 5, 2, 10, 0, []), (285, 8, 0, 7, 0, 1, []), (288, 19, 242, 0, 139, 0, []), (291, 0, 1, 0, 0, 0, []), (292, 41, 0, 0, 0, 0, [])]
set_option maxRecDepth 20000 in
theorem qX0_chargef : f_all yX0_charge YX0_charge pX0_chargef :=
  ⟨f_aload_n (n := 0) (e_dx DX0_charge_0 0 rfl) rfl,
  f_getA (e_dx DX0_charge_0 1 rfl) fX0_40 rfl (by decide) (Nat.le_of_ble_eq_true rfl) rfl (by decide),
  f_getf (e_dx DX0_charge_0 2 rfl) fX0_126 rfl (by decide) (by decide) (by decide),
  f_iconst (e_dx DX0_charge_0 3 rfl) ⟨by decide, by decide⟩,
  f_isub (e_dx DX0_charge_0 4 rfl),
  f_g33,
  f_istore_n (n := 1) (e_dx DX0_charge_0 5 rfl) rfl (by decide),
  f_iconst (e_dx DX0_charge_0 6 rfl) ⟨by decide, by decide⟩,
  f_istore_n (n := 2) (e_dx DX0_charge_0 7 rfl) rfl (by decide),
  f_iconst (e_dx DX0_charge_0 8 rfl) ⟨by decide, by decide⟩,
  f_istore_n (n := 3) (e_dx DX0_charge_0 9 rfl) rfl (by decide),
  f_aload_n (n := 0) (e_dx DX0_charge_0 10 rfl) rfl,
  f_getA (e_dx DX0_charge_0 11 rfl) fX0_36 rfl (by decide) (Nat.le_of_ble_eq_true rfl) rfl (by decide),
  f_iconst (e_dx DX0_charge_0 12 rfl) ⟨by decide, by decide⟩,
  x_callV (e_dx DX0_charge_0 13 rfl) mwX10_isFull vwX10_isFull cX0_200 rfl,
  f_istore (e_dx DX0_charge_0 14 rfl) (by decide),
  f_iconst (e_dx DX0_charge_0 15 rfl) ⟨by decide, by decide⟩,
  f_istore (e_dx DX0_charge_0 16 rfl) (by decide),
  trivial,
  f_iload (e_dx DX0_charge_0 17 rfl),
  f_iload_n (n := 1) (e_dx DX0_charge_0 18 rfl) rfl,
  f_icmp_ge (e_dx DX0_charge_0 19 rfl) rfl,
  f_iconst (e_dx DX0_charge_0 20 rfl) ⟨by decide, by decide⟩,
  f_istore (e_dx DX0_charge_0 21 rfl) (by decide),
  trivial,
  f_iload (e_dx DX0_charge_0 22 rfl),
  f_iload (e_dx DX0_charge_0 23 rfl),
  f_icmp_ge (e_dx DX0_charge_0 24 rfl) rfl,
  f_aload_n (n := 0) (e_dx DX0_charge_0 25 rfl) rfl,
  f_getA (e_dx DX0_charge_0 26 rfl) fX0_19 rfl (by decide) (Nat.le_of_ble_eq_true rfl) rfl (by decide),
  f_iload (e_dx DX0_charge_0 27 rfl),
  f_iaload (e_dx DX0_charge_0 28 rfl),
  f_aload_n (n := 0) (e_dx DX0_charge_0 29 rfl) rfl,
  f_getA (e_dx DX0_charge_0 30 rfl) fX0_19 rfl (by decide) (Nat.le_of_ble_eq_true rfl) rfl (by decide),
  f_iload (e_dx DX0_charge_0 31 rfl),
  f_iaload (e_dx DX0_charge_0 32 rfl),
  f_icmp_ne (e_dx DX0_charge_0 33 rfl) rfl,
  f_iconst (e_dx DX0_charge_0 34 rfl) ⟨by decide, by decide⟩,
  ⟨(e_dx DX0_charge_0 35 rfl), rfl⟩,
  f_g8 (e_dx DX0_charge_0 36 rfl) ⟨by decide, by decide⟩,
  f_g19 (e_dx DX0_charge_0 37 rfl) rfl,
  f_iload_n (n := 2) (e_dx DX0_charge_0 38 rfl) rfl,
  f_if_eq (e_dx DX0_charge_0 39 rfl) rfl,
  f_aload_n (n := 0) (e_dx DX0_charge_1 0 rfl) rfl,
  f_aload_n (n := 0) (e_dx DX0_charge_1 1 rfl) rfl,
  f_getA (e_dx DX0_charge_1 2 rfl) fX0_19 rfl (by decide) (Nat.le_of_ble_eq_true rfl) rfl (by decide),
  f_iload (e_dx DX0_charge_1 3 rfl),
  f_iaload (e_dx DX0_charge_1 4 rfl),
  x_callV (e_dx DX0_charge_1 5 rfl) mwX0_areOwnersAble vwX0_areOwnersAble cX0_296 rfl,
  f_if_eq (e_dx DX0_charge_1 6 rfl) rfl,
  f_iconst (e_dx DX0_charge_1 7 rfl) ⟨by decide, by decide⟩,
  f_g19 (e_dx DX0_charge_1 8 rfl) rfl,
  trivial,
  f_iconst (e_dx DX0_charge_1 9 rfl) ⟨by decide, by decide⟩,
  trivial,
  f_istore_n (n := 2) (e_dx DX0_charge_1 10 rfl) rfl (by decide),
  f_iload_n (n := 3) (e_dx DX0_charge_1 11 rfl) rfl,
  f_if_ne (e_dx DX0_charge_1 12 rfl) rfl,
  f_aload_n (n := 0) (e_dx DX0_charge_1 13 rfl) rfl,
  f_aload_n (n := 0) (e_dx DX0_charge_1 14 rfl) rfl,
  f_getA (e_dx DX0_charge_1 15 rfl) fX0_19 rfl (by decide) (Nat.le_of_ble_eq_true rfl) rfl (by decide),
  f_iload (e_dx DX0_charge_1 16 rfl),
  f_iaload (e_dx DX0_charge_1 17 rfl),
  f_iconst (e_dx DX0_charge_1 18 rfl) ⟨by decide, by decide⟩,
  x_callV (e_dx DX0_charge_1 19 rfl) mwX0_isBarred vwX0_isBarred cX0_275 rfl,
  f_if_eq (e_dx DX0_charge_1 20 rfl) rfl,
  trivial,
  f_iconst (e_dx DX0_charge_1 21 rfl) ⟨by decide, by decide⟩,
  f_g19 (e_dx DX0_charge_1 22 rfl) rfl,
  f_iconst (e_dx DX0_charge_1 23 rfl) ⟨by decide, by decide⟩,
  trivial,
  f_istore_n (n := 3) (e_dx DX0_charge_1 24 rfl) rfl (by decide),
  f_iload (e_dx DX0_charge_1 25 rfl),
  f_if_ne (e_dx DX0_charge_1 26 rfl) rfl,
  f_aload_n (n := 0) (e_dx DX0_charge_1 27 rfl) rfl,
  f_getA (e_dx DX0_charge_1 28 rfl) fX0_36 rfl (by decide) (Nat.le_of_ble_eq_true rfl) rfl (by decide),
  f_aload_n (n := 0) (e_dx DX0_charge_1 29 rfl) rfl,
  f_getA (e_dx DX0_charge_1 30 rfl) fX0_19 rfl (by decide) (Nat.le_of_ble_eq_true rfl) rfl (by decide),
  f_iload (e_dx DX0_charge_1 31 rfl),
  f_iaload (e_dx DX0_charge_1 32 rfl),
  x_callV (e_dx DX0_charge_1 33 rfl) mwX10_lot vwX10_lot cX0_161 rfl,
  f_getA (e_dx DX0_charge_1 34 rfl) fX0_343 rfl (by decide) (Nat.le_of_ble_eq_true rfl) rfl (by decide),
  f_getf (e_dx DX0_charge_1 35 rfl) fX0_338 rfl (by decide) (by decide) (by decide),
  f_bipush (e_dx DX0_charge_1 36 rfl) ⟨by decide, by decide⟩,
  f_icmp_lt (e_dx DX0_charge_1 37 rfl) rfl,
  trivial,
  f_iconst (e_dx DX0_charge_1 38 rfl) ⟨by decide, by decide⟩,
  f_g19 (e_dx DX0_charge_1 39 rfl) rfl,
  f_iconst (e_dx DX0_charge_2 0 rfl) ⟨by decide, by decide⟩,
  trivial,
  f_istore (e_dx DX0_charge_2 1 rfl) (by decide),
  f_g8 (e_dx DX0_charge_2 2 rfl) ⟨by decide, by decide⟩,
  f_g19 (e_dx DX0_charge_2 3 rfl) rfl,
  f_iload_n (n := 2) (e_dx DX0_charge_2 4 rfl) rfl,
  f_if_ne (e_dx DX0_charge_2 5 rfl) rfl,
  f_iconst (e_dx DX0_charge_2 6 rfl) ⟨by decide, by decide⟩,
  ⟨(e_dx DX0_charge_2 7 rfl), rfl⟩,
  f_iload_n (n := 3) (e_dx DX0_charge_2 8 rfl) rfl,
  f_if_eq (e_dx DX0_charge_2 9 rfl) rfl,
  f_iconst (e_dx DX0_charge_2 10 rfl) ⟨by decide, by decide⟩,
  ⟨(e_dx DX0_charge_2 11 rfl), rfl⟩,
  f_aload_n (n := 0) (e_dx DX0_charge_2 12 rfl) rfl,
  f_getA (e_dx DX0_charge_2 13 rfl) fX0_40 rfl (by decide) (Nat.le_of_ble_eq_true rfl) rfl (by decide),
  f_getf (e_dx DX0_charge_2 14 rfl) fX0_278 rfl (by decide) (by decide) (by decide),
  f_if_ne (e_dx DX0_charge_2 15 rfl) rfl,
  f_bipush (e_dx DX0_charge_2 16 rfl) ⟨by decide, by decide⟩,
  ⟨(e_dx DX0_charge_2 17 rfl), rfl⟩,
  f_iload (e_dx DX0_charge_2 18 rfl),
  f_if_ne (e_dx DX0_charge_2 19 rfl) rfl,
  f_iload_n (n := 1) (e_dx DX0_charge_2 20 rfl) rfl,
  f_iconst (e_dx DX0_charge_2 21 rfl) ⟨by decide, by decide⟩,
  f_icmp_ge (e_dx DX0_charge_2 22 rfl) rfl,
  f_bipush (e_dx DX0_charge_2 23 rfl) ⟨by decide, by decide⟩,
  ⟨(e_dx DX0_charge_2 24 rfl), rfl⟩,
  f_aload_n (n := 0) (e_dx DX0_charge_2 25 rfl) rfl,
  f_getA (e_dx DX0_charge_2 26 rfl) fX0_36 rfl (by decide) (Nat.le_of_ble_eq_true rfl) rfl (by decide),
  f_getA (e_dx DX0_charge_2 27 rfl) fX0_174 rfl (by decide) (Nat.le_of_ble_eq_true rfl) rfl (by decide),
  f_iconst (e_dx DX0_charge_2 28 rfl) ⟨by decide, by decide⟩,
  f_iaload (e_dx DX0_charge_2 29 rfl),
  f_g33,
  f_istore (e_dx DX0_charge_2 30 rfl) (by decide),
  f_aload_n (n := 0) (e_dx DX0_charge_2 31 rfl) rfl,
  f_iconst (e_dx DX0_charge_2 32 rfl) ⟨by decide, by decide⟩,
  x_callV (e_dx DX0_charge_2 33 rfl) mwX0_make vwX0_make cX0_203 rfl,
  f_astore (e_dx DX0_charge_2 34 rfl) (by decide),
  f_aload (e_dx DX0_charge_2 35 rfl),
  f_aload_n (n := 0) (e_dx DX0_charge_2 36 rfl) rfl,
  f_getA (e_dx DX0_charge_2 37 rfl) fX0_19 rfl (by decide) (Nat.le_of_ble_eq_true rfl) rfl (by decide),
  f_iload_n (n := 1) (e_dx DX0_charge_2 38 rfl) rfl,
  f_iaload (e_dx DX0_charge_2 39 rfl),
  f_putn (e_dx DX0_charge_3 0 rfl) fX0_188 (fun q hq => by cases hq; rfl) rfl (Or.inl rfl) (by decide),
  f_aload (e_dx DX0_charge_3 1 rfl),
  f_aload_n (n := 0) (e_dx DX0_charge_3 2 rfl) rfl,
  f_getA (e_dx DX0_charge_3 3 rfl) fX0_40 rfl (by decide) (Nat.le_of_ble_eq_true rfl) rfl (by decide),
  f_getf (e_dx DX0_charge_3 4 rfl) fX0_278 rfl (by decide) (by decide) (by decide),
  f_putn (e_dx DX0_charge_3 5 rfl) fX0_211 (fun q hq => by cases hq; rfl) rfl (Or.inl rfl) (by decide),
  f_iconst (e_dx DX0_charge_3 6 rfl) ⟨by decide, by decide⟩,
  f_istore (e_dx DX0_charge_3 7 rfl) (by decide),
  trivial,
  f_iload (e_dx DX0_charge_3 8 rfl),
  f_iload_n (n := 1) (e_dx DX0_charge_3 9 rfl) rfl,
  f_icmp_ge (e_dx DX0_charge_3 10 rfl) rfl,
  f_aload (e_dx DX0_charge_3 11 rfl),
  f_getA (e_dx DX0_charge_3 12 rfl) fX0_179 rfl (by decide) (Nat.le_of_ble_eq_true rfl) rfl (by decide),
  f_aload_n (n := 0) (e_dx DX0_charge_3 13 rfl) rfl,
  f_getA (e_dx DX0_charge_3 14 rfl) fX0_19 rfl (by decide) (Nat.le_of_ble_eq_true rfl) rfl (by decide),
  f_iload (e_dx DX0_charge_3 15 rfl),
  f_iaload (e_dx DX0_charge_3 16 rfl),
  x_callV (e_dx DX0_charge_3 17 rfl) mwX8_add vwX8_add cX0_288 rfl,
  f_aload_n (n := 0) (e_dx DX0_charge_3 18 rfl) rfl,
  f_getA (e_dx DX0_charge_3 19 rfl) fX0_36 rfl (by decide) (Nat.le_of_ble_eq_true rfl) rfl (by decide),
  f_aload_n (n := 0) (e_dx DX0_charge_3 20 rfl) rfl,
  f_getA (e_dx DX0_charge_3 21 rfl) fX0_19 rfl (by decide) (Nat.le_of_ble_eq_true rfl) rfl (by decide),
  f_iload (e_dx DX0_charge_3 22 rfl),
  f_iaload (e_dx DX0_charge_3 23 rfl),
  x_callV (e_dx DX0_charge_3 24 rfl) mwX10_lot vwX10_lot cX0_161 rfl,
  f_getA (e_dx DX0_charge_3 25 rfl) fX0_343 rfl (by decide) (Nat.le_of_ble_eq_true rfl) rfl (by decide),
  f_iload (e_dx DX0_charge_3 26 rfl),
  x_callV (e_dx DX0_charge_3 27 rfl) mwX8_add vwX8_add cX0_288 rfl,
  f_g8 (e_dx DX0_charge_3 28 rfl) ⟨by decide, by decide⟩,
  f_g19 (e_dx DX0_charge_3 29 rfl) rfl,
  f_iconst (e_dx DX0_charge_3 30 rfl) ⟨by decide, by decide⟩,
  ⟨(e_dx DX0_charge_3 31 rfl), rfl⟩, trivial⟩
def lX0_charge (c_X10_isFull : Nat → Int → e_M → (Int → Prop) → Prop) (c_X0_areOwnersAble : Int → e_M → (Int → Prop) → Prop) (c_X0_isBarred : Int → Int → e_M → (Int → Prop) → Prop) (c_X10_lot : Nat → Int → e_M → (Nat → Prop) → Prop) (c_X0_make : Int → e_M → (Nat → e_M → Prop) → Prop) (c_X8_add : Nat → Int → e_M → (e_M → Prop) → Prop) : List (Nat × f_Wt) := [(0, f_wm [(3, 10, 15), (1, 0, 0)] (fun ar M R => c_X10_isFull (f_va (f_nth ar 0)) (f_vi (f_nth ar 1)) M (fun r => R (some (.inl r)) M))), (1, f_wm [(4433, 0, 7), (1, 0, 0)] (fun ar M R => c_X0_areOwnersAble (f_vi (f_nth ar 1)) M (fun r => R (some (.inl r)) M))), (2, f_wm [(4433, 0, 7), (1, 0, 0), (1, 0, 0)] (fun ar M R => c_X0_isBarred (f_vi (f_nth ar 1)) (f_vi (f_nth ar 2)) M (fun r => R (some (.inl r)) M))), (3, f_wm [(3, 10, 15), (1, 0, 0)] (fun ar M R => c_X10_lot (f_va (f_nth ar 0)) (f_vi (f_nth ar 1)) M (fun r => R (some (.inr (.inr (.inl (4, 9, r))))) M))), (4, f_wm [(4433, 0, 7), (1, 0, 0)] (fun ar M R => c_X0_make (f_vi (f_nth ar 1)) M (fun r M => R (some (.inr (.inr (.inl (9, 14, r))))) M))), (5, f_wm [(3, 8, 2), (1, 0, 0)] (fun ar M R => c_X8_add (f_va (f_nth ar 0)) (f_vi (f_nth ar 1)) M (fun M => R none M)))]
set_option maxRecDepth 20000 in
theorem BX0_charge_27 {sh : Nat → Nat × Nat} {t : Nat} {rm : Nat × Nat × Nat} {cs : Nat × Nat} {R : f_Rt} {c_X10_isFull : Nat → Int → e_M → (Int → Prop) → Prop} {c_X0_areOwnersAble : Int → e_M → (Int → Prop) → Prop} {c_X0_isBarred : Int → Int → e_M → (Int → Prop) → Prop} {c_X10_lot : Nat → Int → e_M → (Nat → Prop) → Prop} {c_X0_make : Int → e_M → (Nat → e_M → Prop) → Prop} {c_X8_add : Nat → Int → e_M → (e_M → Prop) → Prop} {k242 : Int → Int → Nat → Int → e_M → Prop} {k36 : Int → Int → Int → Int → Int → Int → e_M → Prop} {x1 : Int} {x2 : Int} {x3 : Int} {x4 : Int} {x5 : Int} {M : e_M} (C : f_Hy sh t yX0_charge rm cs 8 (lX0_charge c_X10_isFull c_X0_areOwnersAble c_X0_isBarred c_X10_lot c_X0_make c_X8_add) R) (h242 : ∀ (x1 : Int) (x5 : Int) (a6 : Nat) (x7 : Int) (M : e_M), k242 x1 x5 a6 x7 M → f_E sh t YX0_charge rm cs (f_Q sh t R) 242 [.inr (.inr (.inl (0, 7, 4423))), .inl x1, .inr (.inr (.inr ())), .inr (.inr (.inr ())), .inr (.inr (.inr ())), .inl x5, .inr (.inr (.inl (9, 14, a6))), .inl x7] [] M) (h36 : ∀ (x1 : Int) (x2 : Int) (x3 : Int) (x4 : Int) (x5 : Int) (x6 : Int) (M : e_M), k36 x1 x2 x3 x4 x5 x6 M → f_E sh t YX0_charge rm cs (f_Q sh t R) 36 [.inr (.inr (.inl (0, 7, 4423))), .inl x1, .inl x2, .inl x3, .inl x4, .inl x5, .inl x6, .inr (.inr (.inr ()))] [] M) (h : VX0_charge_27 c_X10_isFull c_X0_areOwnersAble c_X0_isBarred c_X10_lot c_X0_make c_X8_add k242 k36 (fun r M => R (some (.inl r)) M) x1 x2 x3 x4 x5 M) : f_E sh t YX0_charge rm cs (f_Q sh t R) 27 [.inr (.inr (.inl (0, 7, 4423))), .inl x1, .inl x2, .inl x3, .inl x4, .inl x5, .inr (.inr (.inr ())), .inr (.inr (.inr ()))] [] M :=
  f_go (KC := f_kc [(242, f_pl [(4433, 0, 7), (1, 0, 0), (0, 0, 0), (0, 0, 0), (0, 0, 0), (1, 0, 0), (3, 9, 14), (1, 0, 0)] [] (fun ls st M => k242 (f_vi (f_nth ls 1)) (f_vi (f_nth ls 5)) (f_va (f_nth ls 6)) (f_vi (f_nth ls 7)) M)), (36, f_pl [(4433, 0, 7), (1, 0, 0), (1, 0, 0), (1, 0, 0), (1, 0, 0), (1, 0, 0), (1, 0, 0), (0, 0, 0)] [] (fun ls st M => k36 (f_vi (f_nth ls 1)) (f_vi (f_nth ls 2)) (f_vi (f_nth ls 3)) (f_vi (f_nth ls 4)) (f_vi (f_nth ls 5)) (f_vi (f_nth ls 6)) M))]) C qX0_chargef (f_kc_cons (f_pl_ok rfl (fun ls st M h => h242 _ _ _ _ M h)) (f_kc_cons (f_pl_ok rfl (fun ls st M h => h36 _ _ _ _ _ _ M h)) f_kc_nil)) 165 19 h
set_option maxRecDepth 20000 in
theorem BX0_charge_36 {sh : Nat → Nat × Nat} {t : Nat} {rm : Nat × Nat × Nat} {cs : Nat × Nat} {R : f_Rt} {c_X10_isFull : Nat → Int → e_M → (Int → Prop) → Prop} {c_X0_areOwnersAble : Int → e_M → (Int → Prop) → Prop} {c_X0_isBarred : Int → Int → e_M → (Int → Prop) → Prop} {c_X10_lot : Nat → Int → e_M → (Nat → Prop) → Prop} {c_X0_make : Int → e_M → (Nat → e_M → Prop) → Prop} {c_X8_add : Nat → Int → e_M → (e_M → Prop) → Prop} {k90 : Int → Int → Int → Int → e_M → Prop} {k91 : Int → Int → Int → Int → Int → e_M → Prop} {k36 : Int → Int → Int → Int → Int → Int → e_M → Prop} {x1 : Int} {x2 : Int} {x3 : Int} {x4 : Int} {x5 : Int} {x6 : Int} {M : e_M} (C : f_Hy sh t yX0_charge rm cs 8 (lX0_charge c_X10_isFull c_X0_areOwnersAble c_X0_isBarred c_X10_lot c_X0_make c_X8_add) R) (h90 : ∀ (x1 : Int) (x3 : Int) (x4 : Int) (x5 : Int) (M : e_M), k90 x1 x3 x4 x5 M → f_E sh t YX0_charge rm cs (f_Q sh t R) 90 [.inr (.inr (.inl (0, 7, 4423))), .inl x1, .inr (.inr (.inr ())), .inl x3, .inl x4, .inl x5, .inr (.inr (.inr ())), .inr (.inr (.inr ()))] [] M) (h91 : ∀ (x1 : Int) (x3 : Int) (x4 : Int) (x5 : Int) (xs0 : Int) (M : e_M), k91 x1 x3 x4 x5 xs0 M → f_E sh t YX0_charge rm cs (f_Q sh t R) 91 [.inr (.inr (.inl (0, 7, 4423))), .inl x1, .inr (.inr (.inr ())), .inl x3, .inl x4, .inl x5, .inr (.inr (.inr ())), .inr (.inr (.inr ()))] [.inl xs0] M) (h36 : ∀ (x1 : Int) (x2 : Int) (x3 : Int) (x4 : Int) (x5 : Int) (x6 : Int) (M : e_M), k36 x1 x2 x3 x4 x5 x6 M → f_E sh t YX0_charge rm cs (f_Q sh t R) 36 [.inr (.inr (.inl (0, 7, 4423))), .inl x1, .inl x2, .inl x3, .inl x4, .inl x5, .inl x6, .inr (.inr (.inr ()))] [] M) (h : VX0_charge_36 c_X10_isFull c_X0_areOwnersAble c_X0_isBarred c_X10_lot c_X0_make c_X8_add k90 k91 k36 (fun r M => R (some (.inl r)) M) x1 x2 x3 x4 x5 x6 M) : f_E sh t YX0_charge rm cs (f_Q sh t R) 36 [.inr (.inr (.inl (0, 7, 4423))), .inl x1, .inl x2, .inl x3, .inl x4, .inl x5, .inl x6, .inr (.inr (.inr ()))] [] M :=
  f_go (KC := f_kc [(90, f_pl [(4433, 0, 7), (1, 0, 0), (0, 0, 0), (1, 0, 0), (1, 0, 0), (1, 0, 0), (0, 0, 0), (0, 0, 0)] [] (fun ls st M => k90 (f_vi (f_nth ls 1)) (f_vi (f_nth ls 3)) (f_vi (f_nth ls 4)) (f_vi (f_nth ls 5)) M)), (91, f_pl [(4433, 0, 7), (1, 0, 0), (0, 0, 0), (1, 0, 0), (1, 0, 0), (1, 0, 0), (0, 0, 0), (0, 0, 0)] [(1, 0, 0)] (fun ls st M => k91 (f_vi (f_nth ls 1)) (f_vi (f_nth ls 3)) (f_vi (f_nth ls 4)) (f_vi (f_nth ls 5)) (f_vi (f_nth st 0)) M)), (36, f_pl [(4433, 0, 7), (1, 0, 0), (1, 0, 0), (1, 0, 0), (1, 0, 0), (1, 0, 0), (1, 0, 0), (0, 0, 0)] [] (fun ls st M => k36 (f_vi (f_nth ls 1)) (f_vi (f_nth ls 2)) (f_vi (f_nth ls 3)) (f_vi (f_nth ls 4)) (f_vi (f_nth ls 5)) (f_vi (f_nth ls 6)) M))]) C qX0_chargef (f_kc_cons (f_pl_ok rfl (fun ls st M h => h90 _ _ _ _ M h)) (f_kc_cons (f_pl_ok rfl (fun ls st M h => h91 _ _ _ _ _ M h)) (f_kc_cons (f_pl_ok rfl (fun ls st M h => h36 _ _ _ _ _ _ M h)) f_kc_nil))) 165 25 h
set_option maxRecDepth 20000 in
theorem BX0_charge_90 {sh : Nat → Nat × Nat} {t : Nat} {rm : Nat × Nat × Nat} {cs : Nat × Nat} {R : f_Rt} {c_X10_isFull : Nat → Int → e_M → (Int → Prop) → Prop} {c_X0_areOwnersAble : Int → e_M → (Int → Prop) → Prop} {c_X0_isBarred : Int → Int → e_M → (Int → Prop) → Prop} {c_X10_lot : Nat → Int → e_M → (Nat → Prop) → Prop} {c_X0_make : Int → e_M → (Nat → e_M → Prop) → Prop} {c_X8_add : Nat → Int → e_M → (e_M → Prop) → Prop} {k91 : Int → Int → Int → Int → Int → e_M → Prop} {x1 : Int} {x3 : Int} {x4 : Int} {x5 : Int} {M : e_M} (C : f_Hy sh t yX0_charge rm cs 8 (lX0_charge c_X10_isFull c_X0_areOwnersAble c_X0_isBarred c_X10_lot c_X0_make c_X8_add) R) (h91 : ∀ (x1 : Int) (x3 : Int) (x4 : Int) (x5 : Int) (xs0 : Int) (M : e_M), k91 x1 x3 x4 x5 xs0 M → f_E sh t YX0_charge rm cs (f_Q sh t R) 91 [.inr (.inr (.inl (0, 7, 4423))), .inl x1, .inr (.inr (.inr ())), .inl x3, .inl x4, .inl x5, .inr (.inr (.inr ())), .inr (.inr (.inr ()))] [.inl xs0] M) (h : VX0_charge_90 c_X10_isFull c_X0_areOwnersAble c_X0_isBarred c_X10_lot c_X0_make c_X8_add k91 (fun r M => R (some (.inl r)) M) x1 x3 x4 x5 M) : f_E sh t YX0_charge rm cs (f_Q sh t R) 90 [.inr (.inr (.inl (0, 7, 4423))), .inl x1, .inr (.inr (.inr ())), .inl x3, .inl x4, .inl x5, .inr (.inr (.inr ())), .inr (.inr (.inr ()))] [] M :=
  f_go (KC := f_kc [(91, f_pl [(4433, 0, 7), (1, 0, 0), (0, 0, 0), (1, 0, 0), (1, 0, 0), (1, 0, 0), (0, 0, 0), (0, 0, 0)] [(1, 0, 0)] (fun ls st M => k91 (f_vi (f_nth ls 1)) (f_vi (f_nth ls 3)) (f_vi (f_nth ls 4)) (f_vi (f_nth ls 5)) (f_vi (f_nth st 0)) M))]) C qX0_chargef (f_kc_cons (f_pl_ok rfl (fun ls st M h => h91 _ _ _ _ _ M h)) f_kc_nil) 165 53 h
set_option maxRecDepth 20000 in
theorem BX0_charge_91 {sh : Nat → Nat × Nat} {t : Nat} {rm : Nat × Nat × Nat} {cs : Nat × Nat} {R : f_Rt} {c_X10_isFull : Nat → Int → e_M → (Int → Prop) → Prop} {c_X0_areOwnersAble : Int → e_M → (Int → Prop) → Prop} {c_X0_isBarred : Int → Int → e_M → (Int → Prop) → Prop} {c_X10_lot : Nat → Int → e_M → (Nat → Prop) → Prop} {c_X0_make : Int → e_M → (Nat → e_M → Prop) → Prop} {c_X8_add : Nat → Int → e_M → (e_M → Prop) → Prop} {k111 : Int → Int → Int → Int → e_M → Prop} {k116 : Int → Int → Int → Int → Int → e_M → Prop} {x1 : Int} {x3 : Int} {x4 : Int} {x5 : Int} {xs0 : Int} {M : e_M} (C : f_Hy sh t yX0_charge rm cs 8 (lX0_charge c_X10_isFull c_X0_areOwnersAble c_X0_isBarred c_X10_lot c_X0_make c_X8_add) R) (h111 : ∀ (x1 : Int) (x2 : Int) (x4 : Int) (x5 : Int) (M : e_M), k111 x1 x2 x4 x5 M → f_E sh t YX0_charge rm cs (f_Q sh t R) 111 [.inr (.inr (.inl (0, 7, 4423))), .inl x1, .inl x2, .inr (.inr (.inr ())), .inl x4, .inl x5, .inr (.inr (.inr ())), .inr (.inr (.inr ()))] [] M) (h116 : ∀ (x1 : Int) (x2 : Int) (x4 : Int) (x5 : Int) (xs0 : Int) (M : e_M), k116 x1 x2 x4 x5 xs0 M → f_E sh t YX0_charge rm cs (f_Q sh t R) 116 [.inr (.inr (.inl (0, 7, 4423))), .inl x1, .inl x2, .inr (.inr (.inr ())), .inl x4, .inl x5, .inr (.inr (.inr ())), .inr (.inr (.inr ()))] [.inl xs0] M) (h : VX0_charge_91 c_X10_isFull c_X0_areOwnersAble c_X0_isBarred c_X10_lot c_X0_make c_X8_add k111 k116 (fun r M => R (some (.inl r)) M) x1 x3 x4 x5 xs0 M) : f_E sh t YX0_charge rm cs (f_Q sh t R) 91 [.inr (.inr (.inl (0, 7, 4423))), .inl x1, .inr (.inr (.inr ())), .inl x3, .inl x4, .inl x5, .inr (.inr (.inr ())), .inr (.inr (.inr ()))] [.inl xs0] M :=
  f_go (KC := f_kc [(111, f_pl [(4433, 0, 7), (1, 0, 0), (1, 0, 0), (0, 0, 0), (1, 0, 0), (1, 0, 0), (0, 0, 0), (0, 0, 0)] [] (fun ls st M => k111 (f_vi (f_nth ls 1)) (f_vi (f_nth ls 2)) (f_vi (f_nth ls 4)) (f_vi (f_nth ls 5)) M)), (116, f_pl [(4433, 0, 7), (1, 0, 0), (1, 0, 0), (0, 0, 0), (1, 0, 0), (1, 0, 0), (0, 0, 0), (0, 0, 0)] [(1, 0, 0)] (fun ls st M => k116 (f_vi (f_nth ls 1)) (f_vi (f_nth ls 2)) (f_vi (f_nth ls 4)) (f_vi (f_nth ls 5)) (f_vi (f_nth st 0)) M))]) C qX0_chargef (f_kc_cons (f_pl_ok rfl (fun ls st M h => h111 _ _ _ _ M h)) (f_kc_cons (f_pl_ok rfl (fun ls st M h => h116 _ _ _ _ _ M h)) f_kc_nil)) 165 55 h
set_option maxRecDepth 20000 in
theorem BX0_charge_111 {sh : Nat → Nat × Nat} {t : Nat} {rm : Nat × Nat × Nat} {cs : Nat × Nat} {R : f_Rt} {c_X10_isFull : Nat → Int → e_M → (Int → Prop) → Prop} {c_X0_areOwnersAble : Int → e_M → (Int → Prop) → Prop} {c_X0_isBarred : Int → Int → e_M → (Int → Prop) → Prop} {c_X10_lot : Nat → Int → e_M → (Nat → Prop) → Prop} {c_X0_make : Int → e_M → (Nat → e_M → Prop) → Prop} {c_X8_add : Nat → Int → e_M → (e_M → Prop) → Prop} {k116 : Int → Int → Int → Int → Int → e_M → Prop} {x1 : Int} {x2 : Int} {x4 : Int} {x5 : Int} {M : e_M} (C : f_Hy sh t yX0_charge rm cs 8 (lX0_charge c_X10_isFull c_X0_areOwnersAble c_X0_isBarred c_X10_lot c_X0_make c_X8_add) R) (h116 : ∀ (x1 : Int) (x2 : Int) (x4 : Int) (x5 : Int) (xs0 : Int) (M : e_M), k116 x1 x2 x4 x5 xs0 M → f_E sh t YX0_charge rm cs (f_Q sh t R) 116 [.inr (.inr (.inl (0, 7, 4423))), .inl x1, .inl x2, .inr (.inr (.inr ())), .inl x4, .inl x5, .inr (.inr (.inr ())), .inr (.inr (.inr ()))] [.inl xs0] M) (h : VX0_charge_111 c_X10_isFull c_X0_areOwnersAble c_X0_isBarred c_X10_lot c_X0_make c_X8_add k116 (fun r M => R (some (.inl r)) M) x1 x2 x4 x5 M) : f_E sh t YX0_charge rm cs (f_Q sh t R) 111 [.inr (.inr (.inl (0, 7, 4423))), .inl x1, .inl x2, .inr (.inr (.inr ())), .inl x4, .inl x5, .inr (.inr (.inr ())), .inr (.inr (.inr ()))] [] M :=
  f_go (KC := f_kc [(116, f_pl [(4433, 0, 7), (1, 0, 0), (1, 0, 0), (0, 0, 0), (1, 0, 0), (1, 0, 0), (0, 0, 0), (0, 0, 0)] [(1, 0, 0)] (fun ls st M => k116 (f_vi (f_nth ls 1)) (f_vi (f_nth ls 2)) (f_vi (f_nth ls 4)) (f_vi (f_nth ls 5)) (f_vi (f_nth st 0)) M))]) C qX0_chargef (f_kc_cons (f_pl_ok rfl (fun ls st M h => h116 _ _ _ _ _ M h)) f_kc_nil) 165 67 h
set_option maxRecDepth 20000 in
theorem BX0_charge_116 {sh : Nat → Nat × Nat} {t : Nat} {rm : Nat × Nat × Nat} {cs : Nat × Nat} {R : f_Rt} {c_X10_isFull : Nat → Int → e_M → (Int → Prop) → Prop} {c_X0_areOwnersAble : Int → e_M → (Int → Prop) → Prop} {c_X0_isBarred : Int → Int → e_M → (Int → Prop) → Prop} {c_X10_lot : Nat → Int → e_M → (Nat → Prop) → Prop} {c_X0_make : Int → e_M → (Nat → e_M → Prop) → Prop} {c_X8_add : Nat → Int → e_M → (e_M → Prop) → Prop} {k147 : Int → Int → Int → Int → e_M → Prop} {k152 : Int → Int → Int → Int → Int → e_M → Prop} {x1 : Int} {x2 : Int} {x4 : Int} {x5 : Int} {xs0 : Int} {M : e_M} (C : f_Hy sh t yX0_charge rm cs 8 (lX0_charge c_X10_isFull c_X0_areOwnersAble c_X0_isBarred c_X10_lot c_X0_make c_X8_add) R) (h147 : ∀ (x1 : Int) (x2 : Int) (x3 : Int) (x5 : Int) (M : e_M), k147 x1 x2 x3 x5 M → f_E sh t YX0_charge rm cs (f_Q sh t R) 147 [.inr (.inr (.inl (0, 7, 4423))), .inl x1, .inl x2, .inl x3, .inr (.inr (.inr ())), .inl x5, .inr (.inr (.inr ())), .inr (.inr (.inr ()))] [] M) (h152 : ∀ (x1 : Int) (x2 : Int) (x3 : Int) (x5 : Int) (xs0 : Int) (M : e_M), k152 x1 x2 x3 x5 xs0 M → f_E sh t YX0_charge rm cs (f_Q sh t R) 152 [.inr (.inr (.inl (0, 7, 4423))), .inl x1, .inl x2, .inl x3, .inr (.inr (.inr ())), .inl x5, .inr (.inr (.inr ())), .inr (.inr (.inr ()))] [.inl xs0] M) (h : VX0_charge_116 c_X10_isFull c_X0_areOwnersAble c_X0_isBarred c_X10_lot c_X0_make c_X8_add k147 k152 (fun r M => R (some (.inl r)) M) x1 x2 x4 x5 xs0 M) : f_E sh t YX0_charge rm cs (f_Q sh t R) 116 [.inr (.inr (.inl (0, 7, 4423))), .inl x1, .inl x2, .inr (.inr (.inr ())), .inl x4, .inl x5, .inr (.inr (.inr ())), .inr (.inr (.inr ()))] [.inl xs0] M :=
  f_go (KC := f_kc [(147, f_pl [(4433, 0, 7), (1, 0, 0), (1, 0, 0), (1, 0, 0), (0, 0, 0), (1, 0, 0), (0, 0, 0), (0, 0, 0)] [] (fun ls st M => k147 (f_vi (f_nth ls 1)) (f_vi (f_nth ls 2)) (f_vi (f_nth ls 3)) (f_vi (f_nth ls 5)) M)), (152, f_pl [(4433, 0, 7), (1, 0, 0), (1, 0, 0), (1, 0, 0), (0, 0, 0), (1, 0, 0), (0, 0, 0), (0, 0, 0)] [(1, 0, 0)] (fun ls st M => k152 (f_vi (f_nth ls 1)) (f_vi (f_nth ls 2)) (f_vi (f_nth ls 3)) (f_vi (f_nth ls 5)) (f_vi (f_nth st 0)) M))]) C qX0_chargef (f_kc_cons (f_pl_ok rfl (fun ls st M h => h147 _ _ _ _ M h)) (f_kc_cons (f_pl_ok rfl (fun ls st M h => h152 _ _ _ _ _ M h)) f_kc_nil)) 165 71 h
set_option maxRecDepth 20000 in
theorem BX0_charge_147 {sh : Nat → Nat × Nat} {t : Nat} {rm : Nat × Nat × Nat} {cs : Nat × Nat} {R : f_Rt} {c_X10_isFull : Nat → Int → e_M → (Int → Prop) → Prop} {c_X0_areOwnersAble : Int → e_M → (Int → Prop) → Prop} {c_X0_isBarred : Int → Int → e_M → (Int → Prop) → Prop} {c_X10_lot : Nat → Int → e_M → (Nat → Prop) → Prop} {c_X0_make : Int → e_M → (Nat → e_M → Prop) → Prop} {c_X8_add : Nat → Int → e_M → (e_M → Prop) → Prop} {k152 : Int → Int → Int → Int → Int → e_M → Prop} {x1 : Int} {x2 : Int} {x3 : Int} {x5 : Int} {M : e_M} (C : f_Hy sh t yX0_charge rm cs 8 (lX0_charge c_X10_isFull c_X0_areOwnersAble c_X0_isBarred c_X10_lot c_X0_make c_X8_add) R) (h152 : ∀ (x1 : Int) (x2 : Int) (x3 : Int) (x5 : Int) (xs0 : Int) (M : e_M), k152 x1 x2 x3 x5 xs0 M → f_E sh t YX0_charge rm cs (f_Q sh t R) 152 [.inr (.inr (.inl (0, 7, 4423))), .inl x1, .inl x2, .inl x3, .inr (.inr (.inr ())), .inl x5, .inr (.inr (.inr ())), .inr (.inr (.inr ()))] [.inl xs0] M) (h : VX0_charge_147 c_X10_isFull c_X0_areOwnersAble c_X0_isBarred c_X10_lot c_X0_make c_X8_add k152 (fun r M => R (some (.inl r)) M) x1 x2 x3 x5 M) : f_E sh t YX0_charge rm cs (f_Q sh t R) 147 [.inr (.inr (.inl (0, 7, 4423))), .inl x1, .inl x2, .inl x3, .inr (.inr (.inr ())), .inl x5, .inr (.inr (.inr ())), .inr (.inr (.inr ()))] [] M :=
  f_go (KC := f_kc [(152, f_pl [(4433, 0, 7), (1, 0, 0), (1, 0, 0), (1, 0, 0), (0, 0, 0), (1, 0, 0), (0, 0, 0), (0, 0, 0)] [(1, 0, 0)] (fun ls st M => k152 (f_vi (f_nth ls 1)) (f_vi (f_nth ls 2)) (f_vi (f_nth ls 3)) (f_vi (f_nth ls 5)) (f_vi (f_nth st 0)) M))]) C qX0_chargef (f_kc_cons (f_pl_ok rfl (fun ls st M h => h152 _ _ _ _ _ M h)) f_kc_nil) 165 86 h
set_option maxRecDepth 20000 in
theorem BX0_charge_152 {sh : Nat → Nat × Nat} {t : Nat} {rm : Nat × Nat × Nat} {cs : Nat × Nat} {R : f_Rt} {c_X10_isFull : Nat → Int → e_M → (Int → Prop) → Prop} {c_X0_areOwnersAble : Int → e_M → (Int → Prop) → Prop} {c_X0_isBarred : Int → Int → e_M → (Int → Prop) → Prop} {c_X10_lot : Nat → Int → e_M → (Nat → Prop) → Prop} {c_X0_make : Int → e_M → (Nat → e_M → Prop) → Prop} {c_X8_add : Nat → Int → e_M → (e_M → Prop) → Prop} {k27 : Int → Int → Int → Int → Int → e_M → Prop} {x1 : Int} {x2 : Int} {x3 : Int} {x5 : Int} {xs0 : Int} {M : e_M} (C : f_Hy sh t yX0_charge rm cs 8 (lX0_charge c_X10_isFull c_X0_areOwnersAble c_X0_isBarred c_X10_lot c_X0_make c_X8_add) R) (h27 : ∀ (x1 : Int) (x2 : Int) (x3 : Int) (x4 : Int) (x5 : Int) (M : e_M), k27 x1 x2 x3 x4 x5 M → f_E sh t YX0_charge rm cs (f_Q sh t R) 27 [.inr (.inr (.inl (0, 7, 4423))), .inl x1, .inl x2, .inl x3, .inl x4, .inl x5, .inr (.inr (.inr ())), .inr (.inr (.inr ()))] [] M) (h : VX0_charge_152 c_X10_isFull c_X0_areOwnersAble c_X0_isBarred c_X10_lot c_X0_make c_X8_add k27 (fun r M => R (some (.inl r)) M) x1 x2 x3 x5 xs0 M) : f_E sh t YX0_charge rm cs (f_Q sh t R) 152 [.inr (.inr (.inl (0, 7, 4423))), .inl x1, .inl x2, .inl x3, .inr (.inr (.inr ())), .inl x5, .inr (.inr (.inr ())), .inr (.inr (.inr ()))] [.inl xs0] M :=
  f_go (KC := f_kc [(27, f_pl [(4433, 0, 7), (1, 0, 0), (1, 0, 0), (1, 0, 0), (1, 0, 0), (1, 0, 0), (0, 0, 0), (0, 0, 0)] [] (fun ls st M => k27 (f_vi (f_nth ls 1)) (f_vi (f_nth ls 2)) (f_vi (f_nth ls 3)) (f_vi (f_nth ls 4)) (f_vi (f_nth ls 5)) M))]) C qX0_chargef (f_kc_cons (f_pl_ok rfl (fun ls st M h => h27 _ _ _ _ _ M h)) f_kc_nil) 165 90 h
set_option maxRecDepth 20000 in
theorem BX0_charge_242 {sh : Nat → Nat × Nat} {t : Nat} {rm : Nat × Nat × Nat} {cs : Nat × Nat} {R : f_Rt} {c_X10_isFull : Nat → Int → e_M → (Int → Prop) → Prop} {c_X0_areOwnersAble : Int → e_M → (Int → Prop) → Prop} {c_X0_isBarred : Int → Int → e_M → (Int → Prop) → Prop} {c_X10_lot : Nat → Int → e_M → (Nat → Prop) → Prop} {c_X0_make : Int → e_M → (Nat → e_M → Prop) → Prop} {c_X8_add : Nat → Int → e_M → (e_M → Prop) → Prop} {k242 : Int → Int → Nat → Int → e_M → Prop} {x1 : Int} {x5 : Int} {a6 : Nat} {x7 : Int} {M : e_M} (C : f_Hy sh t yX0_charge rm cs 8 (lX0_charge c_X10_isFull c_X0_areOwnersAble c_X0_isBarred c_X10_lot c_X0_make c_X8_add) R) (h242 : ∀ (x1 : Int) (x5 : Int) (a6 : Nat) (x7 : Int) (M : e_M), k242 x1 x5 a6 x7 M → f_E sh t YX0_charge rm cs (f_Q sh t R) 242 [.inr (.inr (.inl (0, 7, 4423))), .inl x1, .inr (.inr (.inr ())), .inr (.inr (.inr ())), .inr (.inr (.inr ())), .inl x5, .inr (.inr (.inl (9, 14, a6))), .inl x7] [] M) (h : VX0_charge_242 c_X10_isFull c_X0_areOwnersAble c_X0_isBarred c_X10_lot c_X0_make c_X8_add k242 (fun r M => R (some (.inl r)) M) x1 x5 a6 x7 M) : f_E sh t YX0_charge rm cs (f_Q sh t R) 242 [.inr (.inr (.inl (0, 7, 4423))), .inl x1, .inr (.inr (.inr ())), .inr (.inr (.inr ())), .inr (.inr (.inr ())), .inl x5, .inr (.inr (.inl (9, 14, a6))), .inl x7] [] M :=
  f_go (KC := f_kc [(242, f_pl [(4433, 0, 7), (1, 0, 0), (0, 0, 0), (0, 0, 0), (0, 0, 0), (1, 0, 0), (3, 9, 14), (1, 0, 0)] [] (fun ls st M => k242 (f_vi (f_nth ls 1)) (f_vi (f_nth ls 5)) (f_va (f_nth ls 6)) (f_vi (f_nth ls 7)) M))]) C qX0_chargef (f_kc_cons (f_pl_ok rfl (fun ls st M h => h242 _ _ _ _ M h)) f_kc_nil) 165 139 h
set_option maxRecDepth 20000 in
theorem BX0_charge {sh : Nat → Nat × Nat} {t : Nat} {rm : Nat × Nat × Nat} {cs : Nat × Nat} {R : f_Rt} {c_X10_isFull : Nat → Int → e_M → (Int → Prop) → Prop} {c_X0_areOwnersAble : Int → e_M → (Int → Prop) → Prop} {c_X0_isBarred : Int → Int → e_M → (Int → Prop) → Prop} {c_X10_lot : Nat → Int → e_M → (Nat → Prop) → Prop} {c_X0_make : Int → e_M → (Nat → e_M → Prop) → Prop} {c_X8_add : Nat → Int → e_M → (e_M → Prop) → Prop} {k27 : Int → Int → Int → Int → Int → e_M → Prop} {M : e_M} (C : f_Hy sh t yX0_charge rm cs 8 (lX0_charge c_X10_isFull c_X0_areOwnersAble c_X0_isBarred c_X10_lot c_X0_make c_X8_add) R) (h27 : ∀ (x1 : Int) (x2 : Int) (x3 : Int) (x4 : Int) (x5 : Int) (M : e_M), k27 x1 x2 x3 x4 x5 M → f_E sh t YX0_charge rm cs (f_Q sh t R) 27 [.inr (.inr (.inl (0, 7, 4423))), .inl x1, .inl x2, .inl x3, .inl x4, .inl x5, .inr (.inr (.inr ())), .inr (.inr (.inr ()))] [] M) (h : VX0_charge c_X10_isFull c_X0_areOwnersAble c_X0_isBarred c_X10_lot c_X0_make c_X8_add k27 (fun r M => R (some (.inl r)) M) M) : f_E sh t YX0_charge rm cs (f_Q sh t R) 0 [.inr (.inr (.inl (0, 7, 4423))), .inr (.inr (.inr ())), .inr (.inr (.inr ())), .inr (.inr (.inr ())), .inr (.inr (.inr ())), .inr (.inr (.inr ())), .inr (.inr (.inr ())), .inr (.inr (.inr ()))] [] M :=
  f_go (KC := f_kc [(27, f_pl [(4433, 0, 7), (1, 0, 0), (1, 0, 0), (1, 0, 0), (1, 0, 0), (1, 0, 0), (0, 0, 0), (0, 0, 0)] [] (fun ls st M => k27 (f_vi (f_nth ls 1)) (f_vi (f_nth ls 2)) (f_vi (f_nth ls 3)) (f_vi (f_nth ls 4)) (f_vi (f_nth ls 5)) M))]) C qX0_chargef (f_kc_cons (f_pl_ok rfl (fun ls st M h => h27 _ _ _ _ _ M h)) f_kc_nil) 165 0 h
def WX0_charge_242 (Q : Int → e_M → Prop) : Nat → Int → Int → Nat → Int → e_M → Prop
  | 0, _, _, _, _, _ => False
  | n + 1, x1, x5, a6, x7, M =>
    VX0_charge_242 WX10_isFull WX0_areOwnersAble WX0_isBarred WX10_lot WX0_make WX8_add (WX0_charge_242 Q n) Q x1 x5 a6 x7 M
def WX0_charge_152 (H27 : Int → Int → Int → Int → Int → e_M → Prop) (Q : Int → e_M → Prop) (x1 : Int) (x2 : Int) (x3 : Int) (x5 : Int) (xs0 : Int) (M : e_M) : Prop :=
  VX0_charge_152 WX10_isFull WX0_areOwnersAble WX0_isBarred WX10_lot WX0_make WX8_add H27 Q x1 x2 x3 x5 xs0 M
def WX0_charge_147 (H27 : Int → Int → Int → Int → Int → e_M → Prop) (Q : Int → e_M → Prop) (x1 : Int) (x2 : Int) (x3 : Int) (x5 : Int) (M : e_M) : Prop :=
  VX0_charge_147 WX10_isFull WX0_areOwnersAble WX0_isBarred WX10_lot WX0_make WX8_add (WX0_charge_152 H27 Q) Q x1 x2 x3 x5 M
def WX0_charge_116 (H27 : Int → Int → Int → Int → Int → e_M → Prop) (Q : Int → e_M → Prop) (x1 : Int) (x2 : Int) (x4 : Int) (x5 : Int) (xs0 : Int) (M : e_M) : Prop :=
  VX0_charge_116 WX10_isFull WX0_areOwnersAble WX0_isBarred WX10_lot WX0_make WX8_add (WX0_charge_147 H27 Q) (WX0_charge_152 H27 Q) Q x1 x2 x4 x5 xs0 M
def WX0_charge_111 (H27 : Int → Int → Int → Int → Int → e_M → Prop) (Q : Int → e_M → Prop) (x1 : Int) (x2 : Int) (x4 : Int) (x5 : Int) (M : e_M) : Prop :=
  VX0_charge_111 WX10_isFull WX0_areOwnersAble WX0_isBarred WX10_lot WX0_make WX8_add (WX0_charge_116 H27 Q) Q x1 x2 x4 x5 M
def WX0_charge_91 (H27 : Int → Int → Int → Int → Int → e_M → Prop) (Q : Int → e_M → Prop) (x1 : Int) (x3 : Int) (x4 : Int) (x5 : Int) (xs0 : Int) (M : e_M) : Prop :=
  VX0_charge_91 WX10_isFull WX0_areOwnersAble WX0_isBarred WX10_lot WX0_make WX8_add (WX0_charge_111 H27 Q) (WX0_charge_116 H27 Q) Q x1 x3 x4 x5 xs0 M
def WX0_charge_90 (H27 : Int → Int → Int → Int → Int → e_M → Prop) (Q : Int → e_M → Prop) (x1 : Int) (x3 : Int) (x4 : Int) (x5 : Int) (M : e_M) : Prop :=
  VX0_charge_90 WX10_isFull WX0_areOwnersAble WX0_isBarred WX10_lot WX0_make WX8_add (WX0_charge_91 H27 Q) Q x1 x3 x4 x5 M
def WX0_charge_36 (H27 : Int → Int → Int → Int → Int → e_M → Prop) (Q : Int → e_M → Prop) : Nat → Int → Int → Int → Int → Int → Int → e_M → Prop
  | 0, _, _, _, _, _, _, _ => False
  | n + 1, x1, x2, x3, x4, x5, x6, M =>
    VX0_charge_36 WX10_isFull WX0_areOwnersAble WX0_isBarred WX10_lot WX0_make WX8_add (WX0_charge_90 H27 Q) (WX0_charge_91 H27 Q) (WX0_charge_36 H27 Q n) Q x1 x2 x3 x4 x5 x6 M
def WX0_charge_27 (Q : Int → e_M → Prop) : Nat → Int → Int → Int → Int → Int → e_M → Prop
  | 0, _, _, _, _, _, _ => False
  | n + 1, x1, x2, x3, x4, x5, M =>
    VX0_charge_27 WX10_isFull WX0_areOwnersAble WX0_isBarred WX10_lot WX0_make WX8_add (fun x1 x5 a6 x7 M => ∃ j, WX0_charge_242 Q j x1 x5 a6 x7 M) (fun x1 x2 x3 x4 x5 x6 M => ∃ j, WX0_charge_36 (WX0_charge_27 Q n) Q j x1 x2 x3 x4 x5 x6 M) Q x1 x2 x3 x4 x5 M
def WX0_charge (M : e_M) (Q : Int → e_M → Prop) : Prop :=
  VX0_charge WX10_isFull WX0_areOwnersAble WX0_isBarred WX10_lot WX0_make WX8_add (fun x1 x2 x3 x4 x5 M => ∃ j, WX0_charge_27 Q j x1 x2 x3 x4 x5 M) Q M
theorem PX0_charge_242 {sh : Nat → Nat × Nat} {t : Nat} {rm : Nat × Nat × Nat} {cs : Nat × Nat} {R : f_Rt} (C : f_Hy sh t yX0_charge rm cs 8 (lX0_charge WX10_isFull WX0_areOwnersAble WX0_isBarred WX10_lot WX0_make WX8_add) R) : ∀ (n : Nat) (x1 : Int) (x5 : Int) (a6 : Nat) (x7 : Int) (M : e_M), WX0_charge_242 (fun r M => R (some (.inl r)) M) n x1 x5 a6 x7 M → f_E sh t YX0_charge rm cs (f_Q sh t R) 242 [.inr (.inr (.inl (0, 7, 4423))), .inl x1, .inr (.inr (.inr ())), .inr (.inr (.inr ())), .inr (.inr (.inr ())), .inl x5, .inr (.inr (.inl (9, 14, a6))), .inl x7] [] M := by
  intro n
  induction n with
  | zero => intro x1 x5 a6 x7 M h; exact h.elim
  | succ n ih => intro x1 x5 a6 x7 M h; exact BX0_charge_242 C ih h
theorem PX0_charge_152 {sh : Nat → Nat × Nat} {t : Nat} {rm : Nat × Nat × Nat} {cs : Nat × Nat} {R : f_Rt} {H27 : Int → Int → Int → Int → Int → e_M → Prop} {x1 : Int} {x2 : Int} {x3 : Int} {x5 : Int} {xs0 : Int} {M : e_M} (C : f_Hy sh t yX0_charge rm cs 8 (lX0_charge WX10_isFull WX0_areOwnersAble WX0_isBarred WX10_lot WX0_make WX8_add) R) (g27 : ∀ (x1 : Int) (x2 : Int) (x3 : Int) (x4 : Int) (x5 : Int) (M : e_M), H27 x1 x2 x3 x4 x5 M → f_E sh t YX0_charge rm cs (f_Q sh t R) 27 [.inr (.inr (.inl (0, 7, 4423))), .inl x1, .inl x2, .inl x3, .inl x4, .inl x5, .inr (.inr (.inr ())), .inr (.inr (.inr ()))] [] M) (h : WX0_charge_152 H27 (fun r M => R (some (.inl r)) M) x1 x2 x3 x5 xs0 M) : f_E sh t YX0_charge rm cs (f_Q sh t R) 152 [.inr (.inr (.inl (0, 7, 4423))), .inl x1, .inl x2, .inl x3, .inr (.inr (.inr ())), .inl x5, .inr (.inr (.inr ())), .inr (.inr (.inr ()))] [.inl xs0] M :=
  BX0_charge_152 C g27 h
theorem PX0_charge_147 {sh : Nat → Nat × Nat} {t : Nat} {rm : Nat × Nat × Nat} {cs : Nat × Nat} {R : f_Rt} {H27 : Int → Int → Int → Int → Int → e_M → Prop} {x1 : Int} {x2 : Int} {x3 : Int} {x5 : Int} {M : e_M} (C : f_Hy sh t yX0_charge rm cs 8 (lX0_charge WX10_isFull WX0_areOwnersAble WX0_isBarred WX10_lot WX0_make WX8_add) R) (g27 : ∀ (x1 : Int) (x2 : Int) (x3 : Int) (x4 : Int) (x5 : Int) (M : e_M), H27 x1 x2 x3 x4 x5 M → f_E sh t YX0_charge rm cs (f_Q sh t R) 27 [.inr (.inr (.inl (0, 7, 4423))), .inl x1, .inl x2, .inl x3, .inl x4, .inl x5, .inr (.inr (.inr ())), .inr (.inr (.inr ()))] [] M) (h : WX0_charge_147 H27 (fun r M => R (some (.inl r)) M) x1 x2 x3 x5 M) : f_E sh t YX0_charge rm cs (f_Q sh t R) 147 [.inr (.inr (.inl (0, 7, 4423))), .inl x1, .inl x2, .inl x3, .inr (.inr (.inr ())), .inl x5, .inr (.inr (.inr ())), .inr (.inr (.inr ()))] [] M :=
  BX0_charge_147 C (fun x1 x2 x3 x5 xs0 M h => PX0_charge_152 C g27 h) h
theorem PX0_charge_116 {sh : Nat → Nat × Nat} {t : Nat} {rm : Nat × Nat × Nat} {cs : Nat × Nat} {R : f_Rt} {H27 : Int → Int → Int → Int → Int → e_M → Prop} {x1 : Int} {x2 : Int} {x4 : Int} {x5 : Int} {xs0 : Int} {M : e_M} (C : f_Hy sh t yX0_charge rm cs 8 (lX0_charge WX10_isFull WX0_areOwnersAble WX0_isBarred WX10_lot WX0_make WX8_add) R) (g27 : ∀ (x1 : Int) (x2 : Int) (x3 : Int) (x4 : Int) (x5 : Int) (M : e_M), H27 x1 x2 x3 x4 x5 M → f_E sh t YX0_charge rm cs (f_Q sh t R) 27 [.inr (.inr (.inl (0, 7, 4423))), .inl x1, .inl x2, .inl x3, .inl x4, .inl x5, .inr (.inr (.inr ())), .inr (.inr (.inr ()))] [] M) (h : WX0_charge_116 H27 (fun r M => R (some (.inl r)) M) x1 x2 x4 x5 xs0 M) : f_E sh t YX0_charge rm cs (f_Q sh t R) 116 [.inr (.inr (.inl (0, 7, 4423))), .inl x1, .inl x2, .inr (.inr (.inr ())), .inl x4, .inl x5, .inr (.inr (.inr ())), .inr (.inr (.inr ()))] [.inl xs0] M :=
  BX0_charge_116 C (fun x1 x2 x3 x5 M h => PX0_charge_147 C g27 h) (fun x1 x2 x3 x5 xs0 M h => PX0_charge_152 C g27 h) h
theorem PX0_charge_111 {sh : Nat → Nat × Nat} {t : Nat} {rm : Nat × Nat × Nat} {cs : Nat × Nat} {R : f_Rt} {H27 : Int → Int → Int → Int → Int → e_M → Prop} {x1 : Int} {x2 : Int} {x4 : Int} {x5 : Int} {M : e_M} (C : f_Hy sh t yX0_charge rm cs 8 (lX0_charge WX10_isFull WX0_areOwnersAble WX0_isBarred WX10_lot WX0_make WX8_add) R) (g27 : ∀ (x1 : Int) (x2 : Int) (x3 : Int) (x4 : Int) (x5 : Int) (M : e_M), H27 x1 x2 x3 x4 x5 M → f_E sh t YX0_charge rm cs (f_Q sh t R) 27 [.inr (.inr (.inl (0, 7, 4423))), .inl x1, .inl x2, .inl x3, .inl x4, .inl x5, .inr (.inr (.inr ())), .inr (.inr (.inr ()))] [] M) (h : WX0_charge_111 H27 (fun r M => R (some (.inl r)) M) x1 x2 x4 x5 M) : f_E sh t YX0_charge rm cs (f_Q sh t R) 111 [.inr (.inr (.inl (0, 7, 4423))), .inl x1, .inl x2, .inr (.inr (.inr ())), .inl x4, .inl x5, .inr (.inr (.inr ())), .inr (.inr (.inr ()))] [] M :=
  BX0_charge_111 C (fun x1 x2 x4 x5 xs0 M h => PX0_charge_116 C g27 h) h
theorem PX0_charge_91 {sh : Nat → Nat × Nat} {t : Nat} {rm : Nat × Nat × Nat} {cs : Nat × Nat} {R : f_Rt} {H27 : Int → Int → Int → Int → Int → e_M → Prop} {x1 : Int} {x3 : Int} {x4 : Int} {x5 : Int} {xs0 : Int} {M : e_M} (C : f_Hy sh t yX0_charge rm cs 8 (lX0_charge WX10_isFull WX0_areOwnersAble WX0_isBarred WX10_lot WX0_make WX8_add) R) (g27 : ∀ (x1 : Int) (x2 : Int) (x3 : Int) (x4 : Int) (x5 : Int) (M : e_M), H27 x1 x2 x3 x4 x5 M → f_E sh t YX0_charge rm cs (f_Q sh t R) 27 [.inr (.inr (.inl (0, 7, 4423))), .inl x1, .inl x2, .inl x3, .inl x4, .inl x5, .inr (.inr (.inr ())), .inr (.inr (.inr ()))] [] M) (h : WX0_charge_91 H27 (fun r M => R (some (.inl r)) M) x1 x3 x4 x5 xs0 M) : f_E sh t YX0_charge rm cs (f_Q sh t R) 91 [.inr (.inr (.inl (0, 7, 4423))), .inl x1, .inr (.inr (.inr ())), .inl x3, .inl x4, .inl x5, .inr (.inr (.inr ())), .inr (.inr (.inr ()))] [.inl xs0] M :=
  BX0_charge_91 C (fun x1 x2 x4 x5 M h => PX0_charge_111 C g27 h) (fun x1 x2 x4 x5 xs0 M h => PX0_charge_116 C g27 h) h
theorem PX0_charge_90 {sh : Nat → Nat × Nat} {t : Nat} {rm : Nat × Nat × Nat} {cs : Nat × Nat} {R : f_Rt} {H27 : Int → Int → Int → Int → Int → e_M → Prop} {x1 : Int} {x3 : Int} {x4 : Int} {x5 : Int} {M : e_M} (C : f_Hy sh t yX0_charge rm cs 8 (lX0_charge WX10_isFull WX0_areOwnersAble WX0_isBarred WX10_lot WX0_make WX8_add) R) (g27 : ∀ (x1 : Int) (x2 : Int) (x3 : Int) (x4 : Int) (x5 : Int) (M : e_M), H27 x1 x2 x3 x4 x5 M → f_E sh t YX0_charge rm cs (f_Q sh t R) 27 [.inr (.inr (.inl (0, 7, 4423))), .inl x1, .inl x2, .inl x3, .inl x4, .inl x5, .inr (.inr (.inr ())), .inr (.inr (.inr ()))] [] M) (h : WX0_charge_90 H27 (fun r M => R (some (.inl r)) M) x1 x3 x4 x5 M) : f_E sh t YX0_charge rm cs (f_Q sh t R) 90 [.inr (.inr (.inl (0, 7, 4423))), .inl x1, .inr (.inr (.inr ())), .inl x3, .inl x4, .inl x5, .inr (.inr (.inr ())), .inr (.inr (.inr ()))] [] M :=
  BX0_charge_90 C (fun x1 x3 x4 x5 xs0 M h => PX0_charge_91 C g27 h) h
theorem PX0_charge_36 {sh : Nat → Nat × Nat} {t : Nat} {rm : Nat × Nat × Nat} {cs : Nat × Nat} {R : f_Rt} {H27 : Int → Int → Int → Int → Int → e_M → Prop} (C : f_Hy sh t yX0_charge rm cs 8 (lX0_charge WX10_isFull WX0_areOwnersAble WX0_isBarred WX10_lot WX0_make WX8_add) R) (g27 : ∀ (x1 : Int) (x2 : Int) (x3 : Int) (x4 : Int) (x5 : Int) (M : e_M), H27 x1 x2 x3 x4 x5 M → f_E sh t YX0_charge rm cs (f_Q sh t R) 27 [.inr (.inr (.inl (0, 7, 4423))), .inl x1, .inl x2, .inl x3, .inl x4, .inl x5, .inr (.inr (.inr ())), .inr (.inr (.inr ()))] [] M) : ∀ (n : Nat) (x1 : Int) (x2 : Int) (x3 : Int) (x4 : Int) (x5 : Int) (x6 : Int) (M : e_M), WX0_charge_36 H27 (fun r M => R (some (.inl r)) M) n x1 x2 x3 x4 x5 x6 M → f_E sh t YX0_charge rm cs (f_Q sh t R) 36 [.inr (.inr (.inl (0, 7, 4423))), .inl x1, .inl x2, .inl x3, .inl x4, .inl x5, .inl x6, .inr (.inr (.inr ()))] [] M := by
  intro n
  induction n with
  | zero => intro x1 x2 x3 x4 x5 x6 M h; exact h.elim
  | succ n ih => intro x1 x2 x3 x4 x5 x6 M h; exact BX0_charge_36 C (fun x1 x3 x4 x5 M h => PX0_charge_90 C g27 h) (fun x1 x3 x4 x5 xs0 M h => PX0_charge_91 C g27 h) ih h
theorem PX0_charge_27 {sh : Nat → Nat × Nat} {t : Nat} {rm : Nat × Nat × Nat} {cs : Nat × Nat} {R : f_Rt} (C : f_Hy sh t yX0_charge rm cs 8 (lX0_charge WX10_isFull WX0_areOwnersAble WX0_isBarred WX10_lot WX0_make WX8_add) R) : ∀ (n : Nat) (x1 : Int) (x2 : Int) (x3 : Int) (x4 : Int) (x5 : Int) (M : e_M), WX0_charge_27 (fun r M => R (some (.inl r)) M) n x1 x2 x3 x4 x5 M → f_E sh t YX0_charge rm cs (f_Q sh t R) 27 [.inr (.inr (.inl (0, 7, 4423))), .inl x1, .inl x2, .inl x3, .inl x4, .inl x5, .inr (.inr (.inr ())), .inr (.inr (.inr ()))] [] M := by
  intro n
  induction n with
  | zero => intro x1 x2 x3 x4 x5 M h; exact h.elim
  | succ n ih => intro x1 x2 x3 x4 x5 M h; exact BX0_charge_27 C (fun x1 x5 a6 x7 M ⟨j, h⟩ => PX0_charge_242 C j _ _ _ _ _ h) (fun x1 x2 x3 x4 x5 x6 M ⟨j, h⟩ => PX0_charge_36 C ih j _ _ _ _ _ _ _ h) h
theorem PX0_charge {sh : Nat → Nat × Nat} {t : Nat} {rm : Nat × Nat × Nat} {cs : Nat × Nat} {R : f_Rt} {M : e_M} (C : f_Hy sh t yX0_charge rm cs 8 (lX0_charge WX10_isFull WX0_areOwnersAble WX0_isBarred WX10_lot WX0_make WX8_add) R) (h : WX0_charge M (fun r M => R (some (.inl r)) M)) : f_E sh t YX0_charge rm cs (f_Q sh t R) 0 [.inr (.inr (.inl (0, 7, 4423))), .inr (.inr (.inr ())), .inr (.inr (.inr ())), .inr (.inr (.inr ())), .inr (.inr (.inr ())), .inr (.inr (.inr ())), .inr (.inr (.inr ())), .inr (.inr (.inr ()))] [] M :=
  BX0_charge C (fun x1 x2 x3 x4 x5 M ⟨j, h⟩ => PX0_charge_27 C j _ _ _ _ _ _ h) h
def wX0_charge : f_Wt := f_wm [(4433, 0, 7)] (fun ar M R => WX0_charge M (fun r M => R (some (.inl r)) M))
theorem TX0_charge {sh : Nat → Nat × Nat} {t : Nat} : f_Mt sh t YX0_charge 8 (wX0_charge) :=
  f_Mt_of (k := 7) (Nat.le_of_ble_eq_true rfl) rfl rfl (fun ar M R rm cs h1 h2 h3 hX h => PX0_charge ⟨Nat.le_of_ble_eq_true rfl, h1, h2, h3, ⟨(f_Mt.up (Nat.le_of_ble_eq_true rfl) TX10_isFull), (f_Mt.up (Nat.le_of_ble_eq_true rfl) TX0_areOwnersAble), (f_Mt.up (Nat.le_of_ble_eq_true rfl) TX0_isBarred), (f_Mt.up (Nat.le_of_ble_eq_true rfl) TX10_lot), (f_Mt.up (Nat.le_of_ble_eq_true rfl) TX0_make), (f_Mt.up (Nat.le_of_ble_eq_true rfl) TX8_add), trivial⟩, hX⟩ h)
def VX8_get (Q : Int → Prop) (a0 : Nat) (x1 : Int) (M : e_M) : Prop :=
  ((x1 < 0 → (Q (-1))) ∧ (0 ≤ x1 → (((M a0 1) ≤ x1 → (Q (-1))) ∧ (x1 < (M a0 1) → ((0 ≤ x1 ∧ x1 < 8) ∧ (Q (M (a0 + 1) (x1.toNat))))))))
def yX8_get (i : Nat) : e_Y := x_get YX8_get [] i
def pX8_getf : List x_I := [(0, 2, 1, 1, 0, 0, []), (1, 17, 21, 2, 12, 0, []), (4, 2, 1, 1, 0, 0, []), (5, 4, 1, 0, 0, 0, []), (6, 25, 8, 1, 0, 0, []), (9, 18, 21, 3, 12, 0, []), (12, 4, 1, 0, 0, 0, []), (13, 25, 8, 0, 4, 0, [(0, 20, 8), (0, 1, 1)]), (16, 2, 1, 1, 0, 0, []), (17, 27, 0, 0, 0, 0, []), (18, 19, 22, 0, 13, 0, []), (21, 0, 1, 0, 0, (-1), []), (22, 41, 0, 0, 0, 0, [])]
set_option maxRecDepth 20000 in
theorem qX8_getf : f_all yX8_get YX8_get pX8_getf :=
  ⟨f_iload_n (n := 1) (e_dx DX8_get_0 0 rfl) rfl,
  f_if_lt (e_dx DX8_get_0 1 rfl) rfl,
  f_iload_n (n := 1) (e_dx DX8_get_0 2 rfl) rfl,
  f_aload_n (n := 0) (e_dx DX8_get_0 3 rfl) rfl,
  f_getf (e_dx DX8_get_0 4 rfl) fX8_15 rfl (by decide) (by decide) (by decide),
  f_icmp_ge (e_dx DX8_get_0 5 rfl) rfl,
  f_aload_n (n := 0) (e_dx DX8_get_0 6 rfl) rfl,
  f_getA (e_dx DX8_get_0 7 rfl) fX8_9 rfl (by decide) (Nat.le_of_ble_eq_true rfl) rfl (by decide),
  f_iload_n (n := 1) (e_dx DX8_get_0 8 rfl) rfl,
  f_iaload (e_dx DX8_get_0 9 rfl),
  f_g19 (e_dx DX8_get_0 10 rfl) rfl,
  f_iconst (e_dx DX8_get_0 11 rfl) ⟨by decide, by decide⟩,
  ⟨(e_dx DX8_get_0 12 rfl), rfl⟩, trivial⟩
def lX8_get : List (Nat × f_Wt) := []
set_option maxRecDepth 20000 in
theorem BX8_get {sh : Nat → Nat × Nat} {t : Nat} {rm : Nat × Nat × Nat} {cs : Nat × Nat} {R : f_Rt} {a0 : Nat} {x1 : Int} {M : e_M} (C : f_Hy sh t yX8_get rm cs 4 (lX8_get) R) (h : VX8_get (fun r => R (some (.inl r)) M) a0 x1 M) : f_E sh t YX8_get rm cs (f_Q sh t R) 0 [.inr (.inr (.inl (8, 2, a0))), .inl x1] [] M :=
  f_go (KC := f_kc []) C qX8_getf f_kc_nil 15 0 h
def WX8_get (a0 : Nat) (x1 : Int) (M : e_M) (Q : Int → Prop) : Prop :=
  VX8_get Q a0 x1 M
theorem PX8_get {sh : Nat → Nat × Nat} {t : Nat} {rm : Nat × Nat × Nat} {cs : Nat × Nat} {R : f_Rt} {a0 : Nat} {x1 : Int} {M : e_M} (C : f_Hy sh t yX8_get rm cs 4 (lX8_get) R) (h : WX8_get a0 x1 M (fun r => R (some (.inl r)) M)) : f_E sh t YX8_get rm cs (f_Q sh t R) 0 [.inr (.inr (.inl (8, 2, a0))), .inl x1] [] M :=
  BX8_get C h
def wX8_get : f_Wt := f_wm [(3, 8, 2), (1, 0, 0)] (fun ar M R => WX8_get (f_va (f_nth ar 0)) (f_vi (f_nth ar 1)) M (fun r => R (some (.inl r)) M))
theorem TX8_get {sh : Nat → Nat × Nat} {t : Nat} : f_Mt sh t YX8_get 4 (wX8_get) :=
  f_Mt_of (k := 0) (Nat.le_of_ble_eq_true rfl) rfl rfl (fun ar M R rm cs h1 h2 h3 hX h => PX8_get ⟨Nat.le_of_ble_eq_true rfl, h1, h2, h3, trivial, hX⟩ h)
def VX0_endCharge_12 (c_X10_at : Nat → Int → Int → e_M → (Nat → Prop) → Prop) (c_X8_get : Nat → Int → e_M → (Int → Prop) → Prop) (c_X10_lot : Nat → Int → e_M → (Nat → Prop) → Prop) (c_X8_remove : Nat → Int → e_M → (e_M → Prop) → Prop) (c_X8_clear : Nat → e_M → (e_M → Prop) → Prop) (k12 : Int → Nat → Int → e_M → Prop) (Q : e_M → Prop) (x1 : Int) (a2 : Nat) (x3 : Int) (M : e_M) : Prop :=
  (((M ((M a2 9).toNat) 1) ≤ x3 → (c_X8_clear ((M a2 9).toNat) M (fun M1 => (((1 : Int) = 0 ∨ (1 : Int) = 1) ∧ (∀ M2 : e_M, M2 = e_up M1 a2 2 1 → (Q M2)))))) ∧ (x3 < (M ((M a2 9).toNat) 1) → (c_X8_get ((M a2 9).toNat) x3 M (fun r3 => (c_X10_lot ((M 4423 0).toNat) r3 M (fun r4 => (c_X8_remove (r4 + 4) x1 M (fun M5 => (k12 x1 a2 (e_w32 (x3 + 1)) M5)))))))))
def VX0_endCharge (c_X10_at : Nat → Int → Int → e_M → (Nat → Prop) → Prop) (c_X8_get : Nat → Int → e_M → (Int → Prop) → Prop) (c_X10_lot : Nat → Int → e_M → (Nat → Prop) → Prop) (c_X8_remove : Nat → Int → e_M → (e_M → Prop) → Prop) (c_X8_clear : Nat → e_M → (e_M → Prop) → Prop) (k12 : Int → Nat → Int → e_M → Prop) (Q : e_M → Prop) (x1 : Int) (M : e_M) : Prop :=
  (c_X10_at ((M 4423 0).toNat) 2 x1 M (fun r1 => (k12 x1 r1 0 M)))
def yX0_endCharge (i : Nat) : e_Y := x_get YX0_endCharge [YX10_at, YX8_get, YX10_lot, YX8_remove, YX8_clear] i
def pX0_endChargef : List x_I := [(0, 4, 1, 0, 0, 0, []), (1, 25, 0, 0, 4, 0, [(0, 10, 15), (0, 0, 0)]), (4, 0, 1, 0, 0, 2, []), (5, 2, 1, 1, 0, 0, []), (6, 40, 0, 3, 12, 0, []), (9, 7, 1, 2, 0, 0, []), (10, 0, 1, 0, 0, 0, []), (11, 5, 1, 3, 0, 0, []), (12, 49, 0, 0, 0, 0, []), (12, 2, 1, 3, 0, 0, []), (13, 4, 1, 2, 0, 0, []), (14, 25, 9, 9, 4, 0, [(0, 8, 2), (0, 0, 0)]), (17, 25, 8, 1, 0, 0, []), (20, 18, 51, 3, 27, 0, []), (23, 4, 1, 0, 0, 0, []), (24, 25, 0, 0, 4, 0, [(0, 10, 15), (0, 0, 0)]), (27, 4, 1, 2, 0, 0, []), (28, 25, 9, 9, 4, 0, [(0, 8, 2), (0, 0, 0)]), (31, 2, 1, 3, 0, 0, []), (32, 40, 1, 2, 10, 0, []), (35, 40, 2, 2, 12, 0, []), (38, 25, 4, 4, 4, 0, [(0, 8, 2), (0, 1, 4)]), (41, 2, 1, 1, 0, 0, []), (42, 40, 3, 2, 10, 0, []), (45, 8, 0, 3, 0, 1, []), (48, 19, 12, 0, 9, 0, []), (51, 4, 1, 2, 0, 0, []), (52, 25, 9, 9, 4, 0, [(0, 8, 2), (0, 0, 0)]), (55, 40, 4, 1, 10, 0, []), (58, 4, 1, 2, 0, 0, []), (59, 0, 1, 0, 0, 1, []), (60, 26, 9, 2, 1, 0, []), (63, 44, 0, 0, 0, 0, [])]
set_option maxRecDepth 20000 in
theorem qX0_endChargef : f_all yX0_endCharge YX0_endCharge pX0_endChargef :=
  ⟨f_aload_n (n := 0) (e_dx DX0_endCharge_0 0 rfl) rfl,
  f_getA (e_dx DX0_endCharge_0 1 rfl) fX0_36 rfl (by decide) (Nat.le_of_ble_eq_true rfl) rfl (by decide),
  f_iconst (e_dx DX0_endCharge_0 2 rfl) ⟨by decide, by decide⟩,
  f_iload_n (n := 1) (e_dx DX0_endCharge_0 3 rfl) rfl,
  x_callV (e_dx DX0_endCharge_0 4 rfl) mwX10_at vwX10_at cX0_152 rfl,
  f_astore_n (n := 2) (e_dx DX0_endCharge_0 5 rfl) rfl (by decide),
  f_iconst (e_dx DX0_endCharge_0 6 rfl) ⟨by decide, by decide⟩,
  f_istore_n (n := 3) (e_dx DX0_endCharge_0 7 rfl) rfl (by decide),
  trivial,
  f_iload_n (n := 3) (e_dx DX0_endCharge_0 8 rfl) rfl,
  f_aload_n (n := 2) (e_dx DX0_endCharge_0 9 rfl) rfl,
  f_getA (e_dx DX0_endCharge_0 10 rfl) fX0_179 rfl (by decide) (Nat.le_of_ble_eq_true rfl) rfl (by decide),
  f_getf (e_dx DX0_endCharge_0 11 rfl) fX0_338 rfl (by decide) (by decide) (by decide),
  f_icmp_ge (e_dx DX0_endCharge_0 12 rfl) rfl,
  f_aload_n (n := 0) (e_dx DX0_endCharge_0 13 rfl) rfl,
  f_getA (e_dx DX0_endCharge_0 14 rfl) fX0_36 rfl (by decide) (Nat.le_of_ble_eq_true rfl) rfl (by decide),
  f_aload_n (n := 2) (e_dx DX0_endCharge_0 15 rfl) rfl,
  f_getA (e_dx DX0_endCharge_0 16 rfl) fX0_179 rfl (by decide) (Nat.le_of_ble_eq_true rfl) rfl (by decide),
  f_iload_n (n := 3) (e_dx DX0_endCharge_0 17 rfl) rfl,
  x_callV (e_dx DX0_endCharge_0 18 rfl) mwX8_get vwX8_get cX0_382 rfl,
  x_callV (e_dx DX0_endCharge_0 19 rfl) mwX10_lot vwX10_lot cX0_161 rfl,
  f_getA (e_dx DX0_endCharge_0 20 rfl) fX0_343 rfl (by decide) (Nat.le_of_ble_eq_true rfl) rfl (by decide),
  f_iload_n (n := 1) (e_dx DX0_endCharge_0 21 rfl) rfl,
  x_callV (e_dx DX0_endCharge_0 22 rfl) mwX8_remove vwX8_remove cX0_376 rfl,
  f_g8 (e_dx DX0_endCharge_0 23 rfl) ⟨by decide, by decide⟩,
  f_g19 (e_dx DX0_endCharge_0 24 rfl) rfl,
  f_aload_n (n := 2) (e_dx DX0_endCharge_0 25 rfl) rfl,
  f_getA (e_dx DX0_endCharge_0 26 rfl) fX0_179 rfl (by decide) (Nat.le_of_ble_eq_true rfl) rfl (by decide),
  x_callV (e_dx DX0_endCharge_0 27 rfl) mwX8_clear vwX8_clear cX0_385 rfl,
  f_aload_n (n := 2) (e_dx DX0_endCharge_0 28 rfl) rfl,
  f_iconst (e_dx DX0_endCharge_0 29 rfl) ⟨by decide, by decide⟩,
  f_putn (e_dx DX0_endCharge_0 30 rfl) fX0_240 (fun q hq => by cases hq; rfl) rfl (Or.inr (Or.inl rfl)) (by decide),
  ⟨(e_dx DX0_endCharge_0 31 rfl), rfl⟩, trivial⟩
def lX0_endCharge (c_X10_at : Nat → Int → Int → e_M → (Nat → Prop) → Prop) (c_X8_get : Nat → Int → e_M → (Int → Prop) → Prop) (c_X10_lot : Nat → Int → e_M → (Nat → Prop) → Prop) (c_X8_remove : Nat → Int → e_M → (e_M → Prop) → Prop) (c_X8_clear : Nat → e_M → (e_M → Prop) → Prop) : List (Nat × f_Wt) := [(0, f_wm [(3, 10, 15), (1, 0, 0), (1, 0, 0)] (fun ar M R => c_X10_at (f_va (f_nth ar 0)) (f_vi (f_nth ar 1)) (f_vi (f_nth ar 2)) M (fun r => R (some (.inr (.inr (.inl (9, 14, r))))) M))), (1, f_wm [(3, 8, 2), (1, 0, 0)] (fun ar M R => c_X8_get (f_va (f_nth ar 0)) (f_vi (f_nth ar 1)) M (fun r => R (some (.inl r)) M))), (2, f_wm [(3, 10, 15), (1, 0, 0)] (fun ar M R => c_X10_lot (f_va (f_nth ar 0)) (f_vi (f_nth ar 1)) M (fun r => R (some (.inr (.inr (.inl (4, 9, r))))) M))), (3, f_wm [(3, 8, 2), (1, 0, 0)] (fun ar M R => c_X8_remove (f_va (f_nth ar 0)) (f_vi (f_nth ar 1)) M (fun M => R none M))), (4, f_wm [(3, 8, 2)] (fun ar M R => c_X8_clear (f_va (f_nth ar 0)) M (fun M => R none M)))]
set_option maxRecDepth 20000 in
theorem BX0_endCharge_12 {sh : Nat → Nat × Nat} {t : Nat} {rm : Nat × Nat × Nat} {cs : Nat × Nat} {R : f_Rt} {c_X10_at : Nat → Int → Int → e_M → (Nat → Prop) → Prop} {c_X8_get : Nat → Int → e_M → (Int → Prop) → Prop} {c_X10_lot : Nat → Int → e_M → (Nat → Prop) → Prop} {c_X8_remove : Nat → Int → e_M → (e_M → Prop) → Prop} {c_X8_clear : Nat → e_M → (e_M → Prop) → Prop} {k12 : Int → Nat → Int → e_M → Prop} {x1 : Int} {a2 : Nat} {x3 : Int} {M : e_M} (C : f_Hy sh t yX0_endCharge rm cs 6 (lX0_endCharge c_X10_at c_X8_get c_X10_lot c_X8_remove c_X8_clear) R) (h12 : ∀ (x1 : Int) (a2 : Nat) (x3 : Int) (M : e_M), k12 x1 a2 x3 M → f_E sh t YX0_endCharge rm cs (f_Q sh t R) 12 [.inr (.inr (.inl (0, 7, 4423))), .inl x1, .inr (.inr (.inl (9, 14, a2))), .inl x3] [] M) (h : VX0_endCharge_12 c_X10_at c_X8_get c_X10_lot c_X8_remove c_X8_clear k12 (fun M => R none M) x1 a2 x3 M) : f_E sh t YX0_endCharge rm cs (f_Q sh t R) 12 [.inr (.inr (.inl (0, 7, 4423))), .inl x1, .inr (.inr (.inl (9, 14, a2))), .inl x3] [] M :=
  f_go (KC := f_kc [(12, f_pl [(4433, 0, 7), (1, 0, 0), (3, 9, 14), (1, 0, 0)] [] (fun ls st M => k12 (f_vi (f_nth ls 1)) (f_va (f_nth ls 2)) (f_vi (f_nth ls 3)) M))]) C qX0_endChargef (f_kc_cons (f_pl_ok rfl (fun ls st M h => h12 _ _ _ M h)) f_kc_nil) 35 9 h
set_option maxRecDepth 20000 in
theorem BX0_endCharge {sh : Nat → Nat × Nat} {t : Nat} {rm : Nat × Nat × Nat} {cs : Nat × Nat} {R : f_Rt} {c_X10_at : Nat → Int → Int → e_M → (Nat → Prop) → Prop} {c_X8_get : Nat → Int → e_M → (Int → Prop) → Prop} {c_X10_lot : Nat → Int → e_M → (Nat → Prop) → Prop} {c_X8_remove : Nat → Int → e_M → (e_M → Prop) → Prop} {c_X8_clear : Nat → e_M → (e_M → Prop) → Prop} {k12 : Int → Nat → Int → e_M → Prop} {x1 : Int} {M : e_M} (C : f_Hy sh t yX0_endCharge rm cs 6 (lX0_endCharge c_X10_at c_X8_get c_X10_lot c_X8_remove c_X8_clear) R) (h12 : ∀ (x1 : Int) (a2 : Nat) (x3 : Int) (M : e_M), k12 x1 a2 x3 M → f_E sh t YX0_endCharge rm cs (f_Q sh t R) 12 [.inr (.inr (.inl (0, 7, 4423))), .inl x1, .inr (.inr (.inl (9, 14, a2))), .inl x3] [] M) (h : VX0_endCharge c_X10_at c_X8_get c_X10_lot c_X8_remove c_X8_clear k12 (fun M => R none M) x1 M) : f_E sh t YX0_endCharge rm cs (f_Q sh t R) 0 [.inr (.inr (.inl (0, 7, 4423))), .inl x1, .inr (.inr (.inr ())), .inr (.inr (.inr ()))] [] M :=
  f_go (KC := f_kc [(12, f_pl [(4433, 0, 7), (1, 0, 0), (3, 9, 14), (1, 0, 0)] [] (fun ls st M => k12 (f_vi (f_nth ls 1)) (f_va (f_nth ls 2)) (f_vi (f_nth ls 3)) M))]) C qX0_endChargef (f_kc_cons (f_pl_ok rfl (fun ls st M h => h12 _ _ _ M h)) f_kc_nil) 35 0 h
def WX0_endCharge_12 (Q : e_M → Prop) : Nat → Int → Nat → Int → e_M → Prop
  | 0, _, _, _, _ => False
  | n + 1, x1, a2, x3, M =>
    VX0_endCharge_12 WX10_at WX8_get WX10_lot WX8_remove WX8_clear (WX0_endCharge_12 Q n) Q x1 a2 x3 M
def WX0_endCharge (x1 : Int) (M : e_M) (Q : e_M → Prop) : Prop :=
  VX0_endCharge WX10_at WX8_get WX10_lot WX8_remove WX8_clear (fun x1 a2 x3 M => ∃ j, WX0_endCharge_12 Q j x1 a2 x3 M) Q x1 M
theorem PX0_endCharge_12 {sh : Nat → Nat × Nat} {t : Nat} {rm : Nat × Nat × Nat} {cs : Nat × Nat} {R : f_Rt} (C : f_Hy sh t yX0_endCharge rm cs 6 (lX0_endCharge WX10_at WX8_get WX10_lot WX8_remove WX8_clear) R) : ∀ (n : Nat) (x1 : Int) (a2 : Nat) (x3 : Int) (M : e_M), WX0_endCharge_12 (fun M => R none M) n x1 a2 x3 M → f_E sh t YX0_endCharge rm cs (f_Q sh t R) 12 [.inr (.inr (.inl (0, 7, 4423))), .inl x1, .inr (.inr (.inl (9, 14, a2))), .inl x3] [] M := by
  intro n
  induction n with
  | zero => intro x1 a2 x3 M h; exact h.elim
  | succ n ih => intro x1 a2 x3 M h; exact BX0_endCharge_12 C ih h
theorem PX0_endCharge {sh : Nat → Nat × Nat} {t : Nat} {rm : Nat × Nat × Nat} {cs : Nat × Nat} {R : f_Rt} {x1 : Int} {M : e_M} (C : f_Hy sh t yX0_endCharge rm cs 6 (lX0_endCharge WX10_at WX8_get WX10_lot WX8_remove WX8_clear) R) (h : WX0_endCharge x1 M (fun M => R none M)) : f_E sh t YX0_endCharge rm cs (f_Q sh t R) 0 [.inr (.inr (.inl (0, 7, 4423))), .inl x1, .inr (.inr (.inr ())), .inr (.inr (.inr ()))] [] M :=
  BX0_endCharge C (fun x1 a2 x3 M ⟨j, h⟩ => PX0_endCharge_12 C j _ _ _ _ h) h
def wX0_endCharge : f_Wt := f_wm [(4433, 0, 7), (1, 0, 0)] (fun ar M R => WX0_endCharge (f_vi (f_nth ar 1)) M (fun M => R none M))
theorem TX0_endCharge {sh : Nat → Nat × Nat} {t : Nat} : f_Mt sh t YX0_endCharge 6 (wX0_endCharge) :=
  f_Mt_of (k := 2) (Nat.le_of_ble_eq_true rfl) rfl rfl (fun ar M R rm cs h1 h2 h3 hX h => PX0_endCharge ⟨Nat.le_of_ble_eq_true rfl, h1, h2, h3, ⟨(f_Mt.up (Nat.le_of_ble_eq_true rfl) TX10_at), (f_Mt.up (Nat.le_of_ble_eq_true rfl) TX8_get), (f_Mt.up (Nat.le_of_ble_eq_true rfl) TX10_lot), (f_Mt.up (Nat.le_of_ble_eq_true rfl) TX8_remove), (f_Mt.up (Nat.le_of_ble_eq_true rfl) TX8_clear), trivial⟩, hX⟩ h)
def VX0_pay (c_X10_at : Nat → Int → Int → e_M → (Nat → Prop) → Prop) (c_X0_endCharge : Int → e_M → (e_M → Prop) → Prop) (Q : Int → e_M → Prop) (M : e_M) : Prop :=
  ((0 ≤ (0 : Int) ∧ (0 : Int) < 8) ∧ (c_X10_at ((M 4423 0).toNat) 2 (M 4425 ((0 : Int).toNat)) M (fun r1 => (((M ((M 4423 1).toNat) 9) = 0 → (Q 6 M)) ∧ (¬ (M ((M 4423 1).toNat) 9) = 0 → (((M ((M 4423 1).toNat) 9) ≤ (M r1 6) → (∀ M2 : e_M, M2 = e_up M r1 6 (e_w32 ((M r1 6) - (M ((M 4423 1).toNat) 9))) → ((¬ (M2 r1 6) = 0 → (Q 0 M2)) ∧ ((M2 r1 6) = 0 → ((0 ≤ (0 : Int) ∧ (0 : Int) < 8) ∧ (c_X0_endCharge (M2 4425 ((0 : Int).toNat)) M2 (fun M3 => (Q 0 M3)))))))) ∧ ((M r1 6) < (M ((M 4423 1).toNat) 9) → (Q 6 M))))))))
def yX0_pay (i : Nat) : e_Y := x_get YX0_pay [YX10_at, YX0_endCharge] i
def pX0_payf : List x_I := [(0, 4, 1, 0, 0, 0, []), (1, 25, 0, 0, 4, 0, [(0, 10, 15), (0, 0, 0)]), (4, 0, 1, 0, 0, 2, []), (5, 4, 1, 0, 0, 0, []), (6, 25, 0, 4, 4, 0, [(0, 20, 8), (0, 1, 2)]), (9, 0, 1, 0, 0, 0, []), (10, 27, 0, 0, 0, 0, []), (11, 40, 0, 3, 12, 0, []), (14, 7, 1, 1, 0, 0, []), (15, 4, 1, 0, 0, 0, []), (16, 25, 0, 1, 4, 0, [(0, 2, 19), (0, 0, 0)]), (19, 25, 2, 9, 0, 0, []), (22, 17, 39, 0, 20, 0, []), (25, 4, 1, 0, 0, 0, []), (26, 25, 0, 1, 4, 0, [(0, 2, 19), (0, 0, 0)]), (29, 25, 2, 9, 0, 0, []), (32, 4, 1, 1, 0, 0, []), (33, 25, 9, 6, 0, 0, []), (36, 18, 42, 5, 22, 0, []), (39, 0, 2, 0, 0, 6, []), (41, 41, 0, 0, 0, 0, []), (42, 4, 1, 1, 0, 0, []), (43, 20, 0, 0, 0, 0, []), (44, 25, 9, 6, 0, 0, []), (47, 4, 1, 0, 0, 0, []), (48, 25, 0, 1, 4, 0, [(0, 2, 19), (0, 0, 0)]), (51, 25, 2, 9, 0, 0, []), (54, 9, 0, 1, 0, 0, []), (55, 26, 9, 6, 0, 0, []), (58, 4, 1, 1, 0, 0, []), (59, 25, 9, 6, 0, 0, []), (62, 17, 75, 1, 39, 0, []), (65, 4, 1, 0, 0, 0, []), (66, 4, 1, 0, 0, 0, []), (67, 25, 0, 4, 4, 0, [(0, 20, 8), (0, 1, 2)]), (70, 0, 1, 0, 0, 0, []), (71, 27, 0, 0, 0, 0, []), (72, 40, 1, 2, 2, 0, []), (75, 0, 1, 0, 0, 0, []), (76, 41, 0, 0, 0, 0, [])]
set_option maxRecDepth 20000 in
theorem qX0_payf : f_all yX0_pay YX0_pay pX0_payf :=
  ⟨f_aload_n (n := 0) (e_dx DX0_pay_0 0 rfl) rfl,
  f_getA (e_dx DX0_pay_0 1 rfl) fX0_36 rfl (by decide) (Nat.le_of_ble_eq_true rfl) rfl (by decide),
  f_iconst (e_dx DX0_pay_0 2 rfl) ⟨by decide, by decide⟩,
  f_aload_n (n := 0) (e_dx DX0_pay_0 3 rfl) rfl,
  f_getA (e_dx DX0_pay_0 4 rfl) fX0_19 rfl (by decide) (Nat.le_of_ble_eq_true rfl) rfl (by decide),
  f_iconst (e_dx DX0_pay_0 5 rfl) ⟨by decide, by decide⟩,
  f_iaload (e_dx DX0_pay_0 6 rfl),
  x_callV (e_dx DX0_pay_0 7 rfl) mwX10_at vwX10_at cX0_152 rfl,
  f_astore_n (n := 1) (e_dx DX0_pay_0 8 rfl) rfl (by decide),
  f_aload_n (n := 0) (e_dx DX0_pay_0 9 rfl) rfl,
  f_getA (e_dx DX0_pay_0 10 rfl) fX0_40 rfl (by decide) (Nat.le_of_ble_eq_true rfl) rfl (by decide),
  f_getf (e_dx DX0_pay_0 11 rfl) fX0_278 rfl (by decide) (by decide) (by decide),
  f_if_eq (e_dx DX0_pay_0 12 rfl) rfl,
  f_aload_n (n := 0) (e_dx DX0_pay_0 13 rfl) rfl,
  f_getA (e_dx DX0_pay_0 14 rfl) fX0_40 rfl (by decide) (Nat.le_of_ble_eq_true rfl) rfl (by decide),
  f_getf (e_dx DX0_pay_0 15 rfl) fX0_278 rfl (by decide) (by decide) (by decide),
  f_aload_n (n := 1) (e_dx DX0_pay_0 16 rfl) rfl,
  f_getf (e_dx DX0_pay_0 17 rfl) fX0_211 rfl (by decide) (by decide) (by decide),
  f_icmp_le (e_dx DX0_pay_0 18 rfl) rfl,
  f_bipush (e_dx DX0_pay_0 19 rfl) ⟨by decide, by decide⟩,
  ⟨(e_dx DX0_pay_0 20 rfl), rfl⟩,
  f_aload_n (n := 1) (e_dx DX0_pay_0 21 rfl) rfl,
  f_g20 (e_dx DX0_pay_0 22 rfl),
  f_getf (e_dx DX0_pay_0 23 rfl) fX0_211 rfl (by decide) (by decide) (by decide),
  f_aload_n (n := 0) (e_dx DX0_pay_0 24 rfl) rfl,
  f_getA (e_dx DX0_pay_0 25 rfl) fX0_40 rfl (by decide) (Nat.le_of_ble_eq_true rfl) rfl (by decide),
  f_getf (e_dx DX0_pay_0 26 rfl) fX0_278 rfl (by decide) (by decide) (by decide),
  f_isub (e_dx DX0_pay_0 27 rfl),
  f_putn (e_dx DX0_pay_0 28 rfl) fX0_211 (fun q hq => by cases hq; rfl) rfl (Or.inl rfl) (by decide),
  f_aload_n (n := 1) (e_dx DX0_pay_0 29 rfl) rfl,
  f_getf (e_dx DX0_pay_0 30 rfl) fX0_211 rfl (by decide) (by decide) (by decide),
  f_if_ne (e_dx DX0_pay_0 31 rfl) rfl,
  f_aload_n (n := 0) (e_dx DX0_pay_0 32 rfl) rfl,
  f_aload_n (n := 0) (e_dx DX0_pay_0 33 rfl) rfl,
  f_getA (e_dx DX0_pay_0 34 rfl) fX0_19 rfl (by decide) (Nat.le_of_ble_eq_true rfl) rfl (by decide),
  f_iconst (e_dx DX0_pay_0 35 rfl) ⟨by decide, by decide⟩,
  f_iaload (e_dx DX0_pay_0 36 rfl),
  x_callV (e_dx DX0_pay_0 37 rfl) mwX0_endCharge vwX0_endCharge cX0_379 rfl,
  f_iconst (e_dx DX0_pay_0 38 rfl) ⟨by decide, by decide⟩,
  ⟨(e_dx DX0_pay_0 39 rfl), rfl⟩, trivial⟩
def lX0_pay (c_X10_at : Nat → Int → Int → e_M → (Nat → Prop) → Prop) (c_X0_endCharge : Int → e_M → (e_M → Prop) → Prop) : List (Nat × f_Wt) := [(0, f_wm [(3, 10, 15), (1, 0, 0), (1, 0, 0)] (fun ar M R => c_X10_at (f_va (f_nth ar 0)) (f_vi (f_nth ar 1)) (f_vi (f_nth ar 2)) M (fun r => R (some (.inr (.inr (.inl (9, 14, r))))) M))), (1, f_wm [(4433, 0, 7), (1, 0, 0)] (fun ar M R => c_X0_endCharge (f_vi (f_nth ar 1)) M (fun M => R none M)))]
set_option maxRecDepth 20000 in
theorem BX0_pay {sh : Nat → Nat × Nat} {t : Nat} {rm : Nat × Nat × Nat} {cs : Nat × Nat} {R : f_Rt} {c_X10_at : Nat → Int → Int → e_M → (Nat → Prop) → Prop} {c_X0_endCharge : Int → e_M → (e_M → Prop) → Prop} {M : e_M} (C : f_Hy sh t yX0_pay rm cs 7 (lX0_pay c_X10_at c_X0_endCharge) R) (h : VX0_pay c_X10_at c_X0_endCharge (fun r M => R (some (.inl r)) M) M) : f_E sh t YX0_pay rm cs (f_Q sh t R) 0 [.inr (.inr (.inl (0, 7, 4423))), .inr (.inr (.inr ()))] [] M :=
  f_go (KC := f_kc []) C qX0_payf f_kc_nil 42 0 h
def WX0_pay (M : e_M) (Q : Int → e_M → Prop) : Prop :=
  VX0_pay WX10_at WX0_endCharge Q M
theorem PX0_pay {sh : Nat → Nat × Nat} {t : Nat} {rm : Nat × Nat × Nat} {cs : Nat × Nat} {R : f_Rt} {M : e_M} (C : f_Hy sh t yX0_pay rm cs 7 (lX0_pay WX10_at WX0_endCharge) R) (h : WX0_pay M (fun r M => R (some (.inl r)) M)) : f_E sh t YX0_pay rm cs (f_Q sh t R) 0 [.inr (.inr (.inl (0, 7, 4423))), .inr (.inr (.inr ()))] [] M :=
  BX0_pay C h
def wX0_pay : f_Wt := f_wm [(4433, 0, 7)] (fun ar M R => WX0_pay M (fun r M => R (some (.inl r)) M))
theorem TX0_pay {sh : Nat → Nat × Nat} {t : Nat} : f_Mt sh t YX0_pay 7 (wX0_pay) :=
  f_Mt_of (k := 1) (Nat.le_of_ble_eq_true rfl) rfl rfl (fun ar M R rm cs h1 h2 h3 hX h => PX0_pay ⟨Nat.le_of_ble_eq_true rfl, h1, h2, h3, ⟨(f_Mt.up (Nat.le_of_ble_eq_true rfl) TX10_at), (f_Mt.up (Nat.le_of_ble_eq_true rfl) TX0_endCharge), trivial⟩, hX⟩ h)
def VX0_assign (c_X10_at : Nat → Int → Int → e_M → (Nat → Prop) → Prop) (c_X10_isAble : Nat → Int → e_M → (Int → Prop) → Prop) (Q : Int → e_M → Prop) (M : e_M) : Prop :=
  ((0 ≤ (0 : Int) ∧ (0 : Int) < 8) ∧ (c_X10_at ((M 4423 0).toNat) 2 (M 4425 ((0 : Int).toNat)) M (fun r1 => (c_X10_isAble ((M 4423 0).toNat) (M r1 5) M (fun r2 => ((¬ r2 = 0 → ((0 ≤ (1 : Int) ∧ (1 : Int) < 8) ∧ ((¬ (M r1 5) = (M 4425 ((1 : Int).toNat)) → ((0 ≤ (1 : Int) ∧ (1 : Int) < 8) ∧ (∀ M3 : e_M, M3 = e_up M r1 5 (M 4425 ((1 : Int).toNat)) → (Q 0 M3)))) ∧ ((M r1 5) = (M 4425 ((1 : Int).toNat)) → (Q 9 M))))) ∧ (r2 = 0 → (Q 2 M))))))))
def yX0_assign (i : Nat) : e_Y := x_get YX0_assign [YX10_at, YX10_isAble] i
def pX0_assignf : List x_I := [(0, 4, 1, 0, 0, 0, []), (1, 25, 0, 0, 4, 0, [(0, 10, 15), (0, 0, 0)]), (4, 0, 1, 0, 0, 2, []), (5, 4, 1, 0, 0, 0, []), (6, 25, 0, 4, 4, 0, [(0, 20, 8), (0, 1, 2)]), (9, 0, 1, 0, 0, 0, []), (10, 27, 0, 0, 0, 0, []), (11, 40, 0, 3, 12, 0, []), (14, 7, 1, 1, 0, 0, []), (15, 4, 1, 0, 0, 0, []), (16, 25, 0, 0, 4, 0, [(0, 10, 15), (0, 0, 0)]), (19, 4, 1, 1, 0, 0, []), (20, 25, 9, 5, 0, 0, []), (23, 40, 1, 2, 12, 0, []), (26, 17, 31, 1, 18, 0, []), (29, 0, 1, 0, 0, 2, []), (30, 41, 0, 0, 0, 0, []), (31, 4, 1, 1, 0, 0, []), (32, 25, 9, 5, 0, 0, []), (35, 4, 1, 0, 0, 0, []), (36, 25, 0, 4, 4, 0, [(0, 20, 8), (0, 1, 2)]), (39, 0, 1, 0, 0, 1, []), (40, 27, 0, 0, 0, 0, []), (41, 18, 47, 1, 27, 0, []), (44, 0, 2, 0, 0, 9, []), (46, 41, 0, 0, 0, 0, []), (47, 4, 1, 1, 0, 0, []), (48, 4, 1, 0, 0, 0, []), (49, 25, 0, 4, 4, 0, [(0, 20, 8), (0, 1, 2)]), (52, 0, 1, 0, 0, 1, []), (53, 27, 0, 0, 0, 0, []), (54, 26, 9, 5, 0, 0, []), (57, 0, 1, 0, 0, 0, []), (58, 41, 0, 0, 0, 0, [])]
set_option maxRecDepth 20000 in
theorem qX0_assignf : f_all yX0_assign YX0_assign pX0_assignf :=
  ⟨f_aload_n (n := 0) (e_dx DX0_assign_0 0 rfl) rfl,
  f_getA (e_dx DX0_assign_0 1 rfl) fX0_36 rfl (by decide) (Nat.le_of_ble_eq_true rfl) rfl (by decide),
  f_iconst (e_dx DX0_assign_0 2 rfl) ⟨by decide, by decide⟩,
  f_aload_n (n := 0) (e_dx DX0_assign_0 3 rfl) rfl,
  f_getA (e_dx DX0_assign_0 4 rfl) fX0_19 rfl (by decide) (Nat.le_of_ble_eq_true rfl) rfl (by decide),
  f_iconst (e_dx DX0_assign_0 5 rfl) ⟨by decide, by decide⟩,
  f_iaload (e_dx DX0_assign_0 6 rfl),
  x_callV (e_dx DX0_assign_0 7 rfl) mwX10_at vwX10_at cX0_152 rfl,
  f_astore_n (n := 1) (e_dx DX0_assign_0 8 rfl) rfl (by decide),
  f_aload_n (n := 0) (e_dx DX0_assign_0 9 rfl) rfl,
  f_getA (e_dx DX0_assign_0 10 rfl) fX0_36 rfl (by decide) (Nat.le_of_ble_eq_true rfl) rfl (by decide),
  f_aload_n (n := 1) (e_dx DX0_assign_0 11 rfl) rfl,
  f_getf (e_dx DX0_assign_0 12 rfl) fX0_188 rfl (by decide) (by decide) (by decide),
  x_callV (e_dx DX0_assign_0 13 rfl) mwX10_isAble vwX10_isAble cX0_171 rfl,
  f_if_ne (e_dx DX0_assign_0 14 rfl) rfl,
  f_iconst (e_dx DX0_assign_0 15 rfl) ⟨by decide, by decide⟩,
  ⟨(e_dx DX0_assign_0 16 rfl), rfl⟩,
  f_aload_n (n := 1) (e_dx DX0_assign_0 17 rfl) rfl,
  f_getf (e_dx DX0_assign_0 18 rfl) fX0_188 rfl (by decide) (by decide) (by decide),
  f_aload_n (n := 0) (e_dx DX0_assign_0 19 rfl) rfl,
  f_getA (e_dx DX0_assign_0 20 rfl) fX0_19 rfl (by decide) (Nat.le_of_ble_eq_true rfl) rfl (by decide),
  f_iconst (e_dx DX0_assign_0 21 rfl) ⟨by decide, by decide⟩,
  f_iaload (e_dx DX0_assign_0 22 rfl),
  f_icmp_ne (e_dx DX0_assign_0 23 rfl) rfl,
  f_bipush (e_dx DX0_assign_0 24 rfl) ⟨by decide, by decide⟩,
  ⟨(e_dx DX0_assign_0 25 rfl), rfl⟩,
  f_aload_n (n := 1) (e_dx DX0_assign_0 26 rfl) rfl,
  f_aload_n (n := 0) (e_dx DX0_assign_0 27 rfl) rfl,
  f_getA (e_dx DX0_assign_0 28 rfl) fX0_19 rfl (by decide) (Nat.le_of_ble_eq_true rfl) rfl (by decide),
  f_iconst (e_dx DX0_assign_0 29 rfl) ⟨by decide, by decide⟩,
  f_iaload (e_dx DX0_assign_0 30 rfl),
  f_putn (e_dx DX0_assign_0 31 rfl) fX0_188 (fun q hq => by cases hq; rfl) rfl (Or.inl rfl) (by decide),
  f_iconst (e_dx DX0_assign_0 32 rfl) ⟨by decide, by decide⟩,
  ⟨(e_dx DX0_assign_0 33 rfl), rfl⟩, trivial⟩
def lX0_assign (c_X10_at : Nat → Int → Int → e_M → (Nat → Prop) → Prop) (c_X10_isAble : Nat → Int → e_M → (Int → Prop) → Prop) : List (Nat × f_Wt) := [(0, f_wm [(3, 10, 15), (1, 0, 0), (1, 0, 0)] (fun ar M R => c_X10_at (f_va (f_nth ar 0)) (f_vi (f_nth ar 1)) (f_vi (f_nth ar 2)) M (fun r => R (some (.inr (.inr (.inl (9, 14, r))))) M))), (1, f_wm [(3, 10, 15), (1, 0, 0)] (fun ar M R => c_X10_isAble (f_va (f_nth ar 0)) (f_vi (f_nth ar 1)) M (fun r => R (some (.inl r)) M)))]
set_option maxRecDepth 20000 in
theorem BX0_assign {sh : Nat → Nat × Nat} {t : Nat} {rm : Nat × Nat × Nat} {cs : Nat × Nat} {R : f_Rt} {c_X10_at : Nat → Int → Int → e_M → (Nat → Prop) → Prop} {c_X10_isAble : Nat → Int → e_M → (Int → Prop) → Prop} {M : e_M} (C : f_Hy sh t yX0_assign rm cs 7 (lX0_assign c_X10_at c_X10_isAble) R) (h : VX0_assign c_X10_at c_X10_isAble (fun r M => R (some (.inl r)) M) M) : f_E sh t YX0_assign rm cs (f_Q sh t R) 0 [.inr (.inr (.inl (0, 7, 4423))), .inr (.inr (.inr ()))] [] M :=
  f_go (KC := f_kc []) C qX0_assignf f_kc_nil 36 0 h
def WX0_assign (M : e_M) (Q : Int → e_M → Prop) : Prop :=
  VX0_assign WX10_at WX10_isAble Q M
theorem PX0_assign {sh : Nat → Nat × Nat} {t : Nat} {rm : Nat × Nat × Nat} {cs : Nat × Nat} {R : f_Rt} {M : e_M} (C : f_Hy sh t yX0_assign rm cs 7 (lX0_assign WX10_at WX10_isAble) R) (h : WX0_assign M (fun r M => R (some (.inl r)) M)) : f_E sh t YX0_assign rm cs (f_Q sh t R) 0 [.inr (.inr (.inl (0, 7, 4423))), .inr (.inr (.inr ()))] [] M :=
  BX0_assign C h
def wX0_assign : f_Wt := f_wm [(4433, 0, 7)] (fun ar M R => WX0_assign M (fun r M => R (some (.inl r)) M))
theorem TX0_assign {sh : Nat → Nat × Nat} {t : Nat} : f_Mt sh t YX0_assign 7 (wX0_assign) :=
  f_Mt_of (k := 1) (Nat.le_of_ble_eq_true rfl) rfl rfl (fun ar M R rm cs h1 h2 h3 hX h => PX0_assign ⟨Nat.le_of_ble_eq_true rfl, h1, h2, h3, ⟨(f_Mt.up (Nat.le_of_ble_eq_true rfl) TX10_at), (f_Mt.up (Nat.le_of_ble_eq_true rfl) TX10_isAble), trivial⟩, hX⟩ h)
def VX0_rank (c_X10_lot : Nat → Int → e_M → (Nat → Prop) → Prop) (c_X8_find : Nat → Int → e_M → (Int → Prop) → Prop) (c_X8_remove : Nat → Int → e_M → (e_M → Prop) → Prop) (c_X8_insert : Nat → Int → Int → e_M → (e_M → Prop) → Prop) (Q : Int → e_M → Prop) (M : e_M) : Prop :=
  ((0 ≤ (2 : Int) ∧ (2 : Int) < 8) ∧ (c_X10_lot ((M 4423 0).toNat) (M 4425 ((2 : Int).toNat)) M (fun r1 => ((0 ≤ (0 : Int) ∧ (0 : Int) < 8) ∧ (c_X8_find (r1 + 4) (M 4425 ((0 : Int).toNat)) M (fun r2 => ((0 ≤ (1 : Int) ∧ (1 : Int) < 8) ∧ (c_X8_find (r1 + 4) (M 4425 ((1 : Int).toNat)) M (fun r3 => ((r2 < 0 → (Q 9 M)) ∧ (0 ≤ r2 → ((r3 < 0 → (Q 9 M)) ∧ (0 ≤ r3 → ((r3 < r2 → ((0 ≤ (0 : Int) ∧ (0 : Int) < 8) ∧ (c_X8_remove (r1 + 4) (M 4425 ((0 : Int).toNat)) M (fun M4 => ((0 ≤ (0 : Int) ∧ (0 : Int) < 8) ∧ (c_X8_insert (r1 + 4) r3 (M4 4425 ((0 : Int).toNat)) M4 (fun M5 => (Q 0 M5)))))))) ∧ (r2 ≤ r3 → (Q 9 M))))))))))))))))
def yX0_rank (i : Nat) : e_Y := x_get YX0_rank [YX10_lot, YX8_find, YX8_remove, YX8_insert] i
def pX0_rankf : List x_I := [(0, 4, 1, 0, 0, 0, []), (1, 25, 0, 0, 4, 0, [(0, 10, 15), (0, 0, 0)]), (4, 4, 1, 0, 0, 0, []), (5, 25, 0, 4, 4, 0, [(0, 20, 8), (0, 1, 2)]), (8, 0, 1, 0, 0, 2, []), (9, 27, 0, 0, 0, 0, []), (10, 40, 0, 2, 12, 0, []), (13, 25, 4, 4, 4, 0, [(0, 8, 2), (0, 1, 4)]), (16, 7, 1, 1, 0, 0, []), (17, 4, 1, 1, 0, 0, []), (18, 4, 1, 0, 0, 0, []), (19, 25, 0, 4, 4, 0, [(0, 20, 8), (0, 1, 2)]), (22, 0, 1, 0, 0, 0, []), (23, 27, 0, 0, 0, 0, []), (24, 40, 1, 2, 10, 0, []), (27, 5, 1, 2, 0, 0, []), (28, 4, 1, 1, 0, 0, []), (29, 4, 1, 0, 0, 0, []), (30, 25, 0, 4, 4, 0, [(0, 20, 8), (0, 1, 2)]), (33, 0, 1, 0, 0, 1, []), (34, 27, 0, 0, 0, 0, []), (35, 40, 1, 2, 10, 0, []), (38, 5, 1, 3, 0, 0, []), (39, 2, 1, 2, 0, 0, []), (40, 17, 52, 2, 31, 0, []), (43, 2, 1, 3, 0, 0, []), (44, 17, 52, 2, 31, 0, []), (47, 2, 1, 2, 0, 0, []), (48, 2, 1, 3, 0, 0, []), (49, 18, 55, 4, 33, 0, []), (52, 0, 2, 0, 0, 9, []), (54, 41, 0, 0, 0, 0, []), (55, 4, 1, 1, 0, 0, []), (56, 4, 1, 0, 0, 0, []), (57, 25, 0, 4, 4, 0, [(0, 20, 8), (0, 1, 2)]), (60, 0, 1, 0, 0, 0, []), (61, 27, 0, 0, 0, 0, []), (62, 40, 2, 2, 10, 0, []), (65, 4, 1, 1, 0, 0, []), (66, 2, 1, 3, 0, 0, []), (67, 4, 1, 0, 0, 0, []), (68, 25, 0, 4, 4, 0, [(0, 20, 8), (0, 1, 2)]), (71, 0, 1, 0, 0, 0, []), (72, 27, 0, 0, 0, 0, []), (73, 40, 3, 3, 10, 0, []), (76, 0, 1, 0, 0, 0, []), (77, 41, 0, 0, 0, 0, [])]
set_option maxRecDepth 20000 in
theorem qX0_rankf : f_all yX0_rank YX0_rank pX0_rankf :=
  ⟨f_aload_n (n := 0) (e_dx DX0_rank_0 0 rfl) rfl,
  f_getA (e_dx DX0_rank_0 1 rfl) fX0_36 rfl (by decide) (Nat.le_of_ble_eq_true rfl) rfl (by decide),
  f_aload_n (n := 0) (e_dx DX0_rank_0 2 rfl) rfl,
  f_getA (e_dx DX0_rank_0 3 rfl) fX0_19 rfl (by decide) (Nat.le_of_ble_eq_true rfl) rfl (by decide),
  f_iconst (e_dx DX0_rank_0 4 rfl) ⟨by decide, by decide⟩,
  f_iaload (e_dx DX0_rank_0 5 rfl),
  x_callV (e_dx DX0_rank_0 6 rfl) mwX10_lot vwX10_lot cX0_161 rfl,
  f_getA (e_dx DX0_rank_0 7 rfl) fX0_343 rfl (by decide) (Nat.le_of_ble_eq_true rfl) rfl (by decide),
  f_astore_n (n := 1) (e_dx DX0_rank_0 8 rfl) rfl (by decide),
  f_aload_n (n := 1) (e_dx DX0_rank_0 9 rfl) rfl,
  f_aload_n (n := 0) (e_dx DX0_rank_0 10 rfl) rfl,
  f_getA (e_dx DX0_rank_0 11 rfl) fX0_19 rfl (by decide) (Nat.le_of_ble_eq_true rfl) rfl (by decide),
  f_iconst (e_dx DX0_rank_0 12 rfl) ⟨by decide, by decide⟩,
  f_iaload (e_dx DX0_rank_0 13 rfl),
  x_callV (e_dx DX0_rank_0 14 rfl) mwX8_find vwX8_find cX0_392 rfl,
  f_istore_n (n := 2) (e_dx DX0_rank_0 15 rfl) rfl (by decide),
  f_aload_n (n := 1) (e_dx DX0_rank_0 16 rfl) rfl,
  f_aload_n (n := 0) (e_dx DX0_rank_0 17 rfl) rfl,
  f_getA (e_dx DX0_rank_0 18 rfl) fX0_19 rfl (by decide) (Nat.le_of_ble_eq_true rfl) rfl (by decide),
  f_iconst (e_dx DX0_rank_0 19 rfl) ⟨by decide, by decide⟩,
  f_iaload (e_dx DX0_rank_0 20 rfl),
  x_callV (e_dx DX0_rank_0 21 rfl) mwX8_find vwX8_find cX0_392 rfl,
  f_istore_n (n := 3) (e_dx DX0_rank_0 22 rfl) rfl (by decide),
  f_iload_n (n := 2) (e_dx DX0_rank_0 23 rfl) rfl,
  f_if_lt (e_dx DX0_rank_0 24 rfl) rfl,
  f_iload_n (n := 3) (e_dx DX0_rank_0 25 rfl) rfl,
  f_if_lt (e_dx DX0_rank_0 26 rfl) rfl,
  f_iload_n (n := 2) (e_dx DX0_rank_0 27 rfl) rfl,
  f_iload_n (n := 3) (e_dx DX0_rank_0 28 rfl) rfl,
  f_icmp_gt (e_dx DX0_rank_0 29 rfl) rfl,
  f_bipush (e_dx DX0_rank_0 30 rfl) ⟨by decide, by decide⟩,
  ⟨(e_dx DX0_rank_0 31 rfl), rfl⟩,
  f_aload_n (n := 1) (e_dx DX0_rank_0 32 rfl) rfl,
  f_aload_n (n := 0) (e_dx DX0_rank_0 33 rfl) rfl,
  f_getA (e_dx DX0_rank_0 34 rfl) fX0_19 rfl (by decide) (Nat.le_of_ble_eq_true rfl) rfl (by decide),
  f_iconst (e_dx DX0_rank_0 35 rfl) ⟨by decide, by decide⟩,
  f_iaload (e_dx DX0_rank_0 36 rfl),
  x_callV (e_dx DX0_rank_0 37 rfl) mwX8_remove vwX8_remove cX0_376 rfl,
  f_aload_n (n := 1) (e_dx DX0_rank_0 38 rfl) rfl,
  f_iload_n (n := 3) (e_dx DX0_rank_0 39 rfl) rfl,
  f_aload_n (n := 0) (e_dx DX0_rank_1 0 rfl) rfl,
  f_getA (e_dx DX0_rank_1 1 rfl) fX0_19 rfl (by decide) (Nat.le_of_ble_eq_true rfl) rfl (by decide),
  f_iconst (e_dx DX0_rank_1 2 rfl) ⟨by decide, by decide⟩,
  f_iaload (e_dx DX0_rank_1 3 rfl),
  x_callV (e_dx DX0_rank_1 4 rfl) mwX8_insert vwX8_insert cX0_394 rfl,
  f_iconst (e_dx DX0_rank_1 5 rfl) ⟨by decide, by decide⟩,
  ⟨(e_dx DX0_rank_1 6 rfl), rfl⟩, trivial⟩
def lX0_rank (c_X10_lot : Nat → Int → e_M → (Nat → Prop) → Prop) (c_X8_find : Nat → Int → e_M → (Int → Prop) → Prop) (c_X8_remove : Nat → Int → e_M → (e_M → Prop) → Prop) (c_X8_insert : Nat → Int → Int → e_M → (e_M → Prop) → Prop) : List (Nat × f_Wt) := [(0, f_wm [(3, 10, 15), (1, 0, 0)] (fun ar M R => c_X10_lot (f_va (f_nth ar 0)) (f_vi (f_nth ar 1)) M (fun r => R (some (.inr (.inr (.inl (4, 9, r))))) M))), (1, f_wm [(3, 8, 2), (1, 0, 0)] (fun ar M R => c_X8_find (f_va (f_nth ar 0)) (f_vi (f_nth ar 1)) M (fun r => R (some (.inl r)) M))), (2, f_wm [(3, 8, 2), (1, 0, 0)] (fun ar M R => c_X8_remove (f_va (f_nth ar 0)) (f_vi (f_nth ar 1)) M (fun M => R none M))), (3, f_wm [(3, 8, 2), (1, 0, 0), (1, 0, 0)] (fun ar M R => c_X8_insert (f_va (f_nth ar 0)) (f_vi (f_nth ar 1)) (f_vi (f_nth ar 2)) M (fun M => R none M)))]
set_option maxRecDepth 20000 in
theorem BX0_rank {sh : Nat → Nat × Nat} {t : Nat} {rm : Nat × Nat × Nat} {cs : Nat × Nat} {R : f_Rt} {c_X10_lot : Nat → Int → e_M → (Nat → Prop) → Prop} {c_X8_find : Nat → Int → e_M → (Int → Prop) → Prop} {c_X8_remove : Nat → Int → e_M → (e_M → Prop) → Prop} {c_X8_insert : Nat → Int → Int → e_M → (e_M → Prop) → Prop} {M : e_M} (C : f_Hy sh t yX0_rank rm cs 6 (lX0_rank c_X10_lot c_X8_find c_X8_remove c_X8_insert) R) (h : VX0_rank c_X10_lot c_X8_find c_X8_remove c_X8_insert (fun r M => R (some (.inl r)) M) M) : f_E sh t YX0_rank rm cs (f_Q sh t R) 0 [.inr (.inr (.inl (0, 7, 4423))), .inr (.inr (.inr ())), .inr (.inr (.inr ())), .inr (.inr (.inr ()))] [] M :=
  f_go (KC := f_kc []) C qX0_rankf f_kc_nil 49 0 h
def WX0_rank (M : e_M) (Q : Int → e_M → Prop) : Prop :=
  VX0_rank WX10_lot WX8_find WX8_remove WX8_insert Q M
theorem PX0_rank {sh : Nat → Nat × Nat} {t : Nat} {rm : Nat × Nat × Nat} {cs : Nat × Nat} {R : f_Rt} {M : e_M} (C : f_Hy sh t yX0_rank rm cs 6 (lX0_rank WX10_lot WX8_find WX8_remove WX8_insert) R) (h : WX0_rank M (fun r M => R (some (.inl r)) M)) : f_E sh t YX0_rank rm cs (f_Q sh t R) 0 [.inr (.inr (.inl (0, 7, 4423))), .inr (.inr (.inr ())), .inr (.inr (.inr ())), .inr (.inr (.inr ()))] [] M :=
  BX0_rank C h
def wX0_rank : f_Wt := f_wm [(4433, 0, 7)] (fun ar M R => WX0_rank M (fun r M => R (some (.inl r)) M))
theorem TX0_rank {sh : Nat → Nat × Nat} {t : Nat} : f_Mt sh t YX0_rank 6 (wX0_rank) :=
  f_Mt_of (k := 3) (Nat.le_of_ble_eq_true rfl) rfl rfl (fun ar M R rm cs h1 h2 h3 hX h => PX0_rank ⟨Nat.le_of_ble_eq_true rfl, h1, h2, h3, ⟨(f_Mt.up (Nat.le_of_ble_eq_true rfl) TX10_lot), (f_Mt.up (Nat.le_of_ble_eq_true rfl) TX8_find), (f_Mt.up (Nat.le_of_ble_eq_true rfl) TX8_remove), (f_Mt.up (Nat.le_of_ble_eq_true rfl) TX8_insert), trivial⟩, hX⟩ h)
def VX0_leaveLot (c_X8_remove : Nat → Int → e_M → (e_M → Prop) → Prop) (Q : e_M → Prop) (a1 : Nat) (x2 : Int) (M : e_M) : Prop :=
  (c_X8_remove ((M a1 9).toNat) x2 M (fun M1 => ((¬ (M1 ((M1 a1 9).toNat) 1) = 0 → (Q M1)) ∧ ((M1 ((M1 a1 9).toNat) 1) = 0 → (((1 : Int) = 0 ∨ (1 : Int) = 1) ∧ (∀ M2 : e_M, M2 = e_up M1 a1 2 1 → (Q M2)))))))
def yX0_leaveLot (i : Nat) : e_Y := x_get YX0_leaveLot [YX8_remove] i
def pX0_leaveLotf : List x_I := [(0, 4, 1, 1, 0, 0, []), (1, 25, 9, 9, 4, 0, [(0, 8, 2), (0, 0, 0)]), (4, 2, 1, 2, 0, 0, []), (5, 40, 0, 2, 10, 0, []), (8, 4, 1, 1, 0, 0, []), (9, 25, 9, 9, 4, 0, [(0, 8, 2), (0, 0, 0)]), (12, 25, 8, 1, 0, 0, []), (15, 17, 23, 1, 12, 0, []), (18, 4, 1, 1, 0, 0, []), (19, 0, 1, 0, 0, 1, []), (20, 26, 9, 2, 1, 0, []), (23, 44, 0, 0, 0, 0, [])]
set_option maxRecDepth 20000 in
theorem qX0_leaveLotf : f_all yX0_leaveLot YX0_leaveLot pX0_leaveLotf :=
  ⟨f_aload_n (n := 1) (e_dx DX0_leaveLot_0 0 rfl) rfl,
  f_getA (e_dx DX0_leaveLot_0 1 rfl) fX0_179 rfl (by decide) (Nat.le_of_ble_eq_true rfl) rfl (by decide),
  f_iload_n (n := 2) (e_dx DX0_leaveLot_0 2 rfl) rfl,
  x_callV (e_dx DX0_leaveLot_0 3 rfl) mwX8_remove vwX8_remove cX0_376 rfl,
  f_aload_n (n := 1) (e_dx DX0_leaveLot_0 4 rfl) rfl,
  f_getA (e_dx DX0_leaveLot_0 5 rfl) fX0_179 rfl (by decide) (Nat.le_of_ble_eq_true rfl) rfl (by decide),
  f_getf (e_dx DX0_leaveLot_0 6 rfl) fX0_338 rfl (by decide) (by decide) (by decide),
  f_if_ne (e_dx DX0_leaveLot_0 7 rfl) rfl,
  f_aload_n (n := 1) (e_dx DX0_leaveLot_0 8 rfl) rfl,
  f_iconst (e_dx DX0_leaveLot_0 9 rfl) ⟨by decide, by decide⟩,
  f_putn (e_dx DX0_leaveLot_0 10 rfl) fX0_240 (fun q hq => by cases hq; rfl) rfl (Or.inr (Or.inl rfl)) (by decide),
  ⟨(e_dx DX0_leaveLot_0 11 rfl), rfl⟩, trivial⟩
def lX0_leaveLot (c_X8_remove : Nat → Int → e_M → (e_M → Prop) → Prop) : List (Nat × f_Wt) := [(0, f_wm [(3, 8, 2), (1, 0, 0)] (fun ar M R => c_X8_remove (f_va (f_nth ar 0)) (f_vi (f_nth ar 1)) M (fun M => R none M)))]
set_option maxRecDepth 20000 in
theorem BX0_leaveLot {sh : Nat → Nat × Nat} {t : Nat} {rm : Nat × Nat × Nat} {cs : Nat × Nat} {R : f_Rt} {c_X8_remove : Nat → Int → e_M → (e_M → Prop) → Prop} {a1 : Nat} {x2 : Int} {M : e_M} (C : f_Hy sh t yX0_leaveLot rm cs 6 (lX0_leaveLot c_X8_remove) R) (h : VX0_leaveLot c_X8_remove (fun M => R none M) a1 x2 M) : f_E sh t YX0_leaveLot rm cs (f_Q sh t R) 0 [.inr (.inr (.inl (0, 7, 4423))), .inr (.inr (.inl (9, 14, a1))), .inl x2] [] M :=
  f_go (KC := f_kc []) C qX0_leaveLotf f_kc_nil 14 0 h
def WX0_leaveLot (a1 : Nat) (x2 : Int) (M : e_M) (Q : e_M → Prop) : Prop :=
  VX0_leaveLot WX8_remove Q a1 x2 M
theorem PX0_leaveLot {sh : Nat → Nat × Nat} {t : Nat} {rm : Nat × Nat × Nat} {cs : Nat × Nat} {R : f_Rt} {a1 : Nat} {x2 : Int} {M : e_M} (C : f_Hy sh t yX0_leaveLot rm cs 6 (lX0_leaveLot WX8_remove) R) (h : WX0_leaveLot a1 x2 M (fun M => R none M)) : f_E sh t YX0_leaveLot rm cs (f_Q sh t R) 0 [.inr (.inr (.inl (0, 7, 4423))), .inr (.inr (.inl (9, 14, a1))), .inl x2] [] M :=
  BX0_leaveLot C h
def wX0_leaveLot : f_Wt := f_wm [(4433, 0, 7), (3, 9, 14), (1, 0, 0)] (fun ar M R => WX0_leaveLot (f_va (f_nth ar 1)) (f_vi (f_nth ar 2)) M (fun M => R none M))
theorem TX0_leaveLot {sh : Nat → Nat × Nat} {t : Nat} : f_Mt sh t YX0_leaveLot 6 (wX0_leaveLot) :=
  f_Mt_of (k := 0) (Nat.le_of_ble_eq_true rfl) rfl rfl (fun ar M R rm cs h1 h2 h3 hX h => PX0_leaveLot ⟨Nat.le_of_ble_eq_true rfl, h1, h2, h3, ⟨(f_Mt.up (Nat.le_of_ble_eq_true rfl) TX8_remove), trivial⟩, hX⟩ h)
def VX0_freeLot (c_X10_at : Nat → Int → Int → e_M → (Nat → Prop) → Prop) (c_X10_lot : Nat → Int → e_M → (Nat → Prop) → Prop) (c_X8_remove : Nat → Int → e_M → (e_M → Prop) → Prop) (c_X0_leaveLot : Nat → Int → e_M → (e_M → Prop) → Prop) (Q : e_M → Prop) (x1 : Int) (x2 : Int) (M : e_M) : Prop :=
  (c_X10_at ((M 4423 0).toNat) 2 x2 M (fun r1 => (c_X10_lot ((M 4423 0).toNat) x1 M (fun r2 => (c_X8_remove (r2 + 4) x2 M (fun M3 => (c_X0_leaveLot r1 x1 M3 (fun M4 => (Q M4)))))))))
def yX0_freeLot (i : Nat) : e_Y := x_get YX0_freeLot [YX10_at, YX10_lot, YX8_remove, YX0_leaveLot] i
def pX0_freeLotf : List x_I := [(0, 4, 1, 0, 0, 0, []), (1, 25, 0, 0, 4, 0, [(0, 10, 15), (0, 0, 0)]), (4, 0, 1, 0, 0, 2, []), (5, 2, 1, 2, 0, 0, []), (6, 40, 0, 3, 12, 0, []), (9, 7, 1, 3, 0, 0, []), (10, 4, 1, 0, 0, 0, []), (11, 25, 0, 0, 4, 0, [(0, 10, 15), (0, 0, 0)]), (14, 2, 1, 1, 0, 0, []), (15, 40, 1, 2, 12, 0, []), (18, 25, 4, 4, 4, 0, [(0, 8, 2), (0, 1, 4)]), (21, 2, 1, 2, 0, 0, []), (22, 40, 2, 2, 10, 0, []), (25, 4, 1, 0, 0, 0, []), (26, 4, 1, 3, 0, 0, []), (27, 2, 1, 1, 0, 0, []), (28, 40, 3, 3, 2, 0, []), (31, 44, 0, 0, 0, 0, [])]
set_option maxRecDepth 20000 in
theorem qX0_freeLotf : f_all yX0_freeLot YX0_freeLot pX0_freeLotf :=
  ⟨f_aload_n (n := 0) (e_dx DX0_freeLot_0 0 rfl) rfl,
  f_getA (e_dx DX0_freeLot_0 1 rfl) fX0_36 rfl (by decide) (Nat.le_of_ble_eq_true rfl) rfl (by decide),
  f_iconst (e_dx DX0_freeLot_0 2 rfl) ⟨by decide, by decide⟩,
  f_iload_n (n := 2) (e_dx DX0_freeLot_0 3 rfl) rfl,
  x_callV (e_dx DX0_freeLot_0 4 rfl) mwX10_at vwX10_at cX0_152 rfl,
  f_astore_n (n := 3) (e_dx DX0_freeLot_0 5 rfl) rfl (by decide),
  f_aload_n (n := 0) (e_dx DX0_freeLot_0 6 rfl) rfl,
  f_getA (e_dx DX0_freeLot_0 7 rfl) fX0_36 rfl (by decide) (Nat.le_of_ble_eq_true rfl) rfl (by decide),
  f_iload_n (n := 1) (e_dx DX0_freeLot_0 8 rfl) rfl,
  x_callV (e_dx DX0_freeLot_0 9 rfl) mwX10_lot vwX10_lot cX0_161 rfl,
  f_getA (e_dx DX0_freeLot_0 10 rfl) fX0_343 rfl (by decide) (Nat.le_of_ble_eq_true rfl) rfl (by decide),
  f_iload_n (n := 2) (e_dx DX0_freeLot_0 11 rfl) rfl,
  x_callV (e_dx DX0_freeLot_0 12 rfl) mwX8_remove vwX8_remove cX0_376 rfl,
  f_aload_n (n := 0) (e_dx DX0_freeLot_0 13 rfl) rfl,
  f_aload_n (n := 3) (e_dx DX0_freeLot_0 14 rfl) rfl,
  f_iload_n (n := 1) (e_dx DX0_freeLot_0 15 rfl) rfl,
  x_callV (e_dx DX0_freeLot_0 16 rfl) mwX0_leaveLot vwX0_leaveLot cX0_388 rfl,
  ⟨(e_dx DX0_freeLot_0 17 rfl), rfl⟩, trivial⟩
def lX0_freeLot (c_X10_at : Nat → Int → Int → e_M → (Nat → Prop) → Prop) (c_X10_lot : Nat → Int → e_M → (Nat → Prop) → Prop) (c_X8_remove : Nat → Int → e_M → (e_M → Prop) → Prop) (c_X0_leaveLot : Nat → Int → e_M → (e_M → Prop) → Prop) : List (Nat × f_Wt) := [(0, f_wm [(3, 10, 15), (1, 0, 0), (1, 0, 0)] (fun ar M R => c_X10_at (f_va (f_nth ar 0)) (f_vi (f_nth ar 1)) (f_vi (f_nth ar 2)) M (fun r => R (some (.inr (.inr (.inl (9, 14, r))))) M))), (1, f_wm [(3, 10, 15), (1, 0, 0)] (fun ar M R => c_X10_lot (f_va (f_nth ar 0)) (f_vi (f_nth ar 1)) M (fun r => R (some (.inr (.inr (.inl (4, 9, r))))) M))), (2, f_wm [(3, 8, 2), (1, 0, 0)] (fun ar M R => c_X8_remove (f_va (f_nth ar 0)) (f_vi (f_nth ar 1)) M (fun M => R none M))), (3, f_wm [(4433, 0, 7), (3, 9, 14), (1, 0, 0)] (fun ar M R => c_X0_leaveLot (f_va (f_nth ar 1)) (f_vi (f_nth ar 2)) M (fun M => R none M)))]
set_option maxRecDepth 20000 in
theorem BX0_freeLot {sh : Nat → Nat × Nat} {t : Nat} {rm : Nat × Nat × Nat} {cs : Nat × Nat} {R : f_Rt} {c_X10_at : Nat → Int → Int → e_M → (Nat → Prop) → Prop} {c_X10_lot : Nat → Int → e_M → (Nat → Prop) → Prop} {c_X8_remove : Nat → Int → e_M → (e_M → Prop) → Prop} {c_X0_leaveLot : Nat → Int → e_M → (e_M → Prop) → Prop} {x1 : Int} {x2 : Int} {M : e_M} (C : f_Hy sh t yX0_freeLot rm cs 7 (lX0_freeLot c_X10_at c_X10_lot c_X8_remove c_X0_leaveLot) R) (h : VX0_freeLot c_X10_at c_X10_lot c_X8_remove c_X0_leaveLot (fun M => R none M) x1 x2 M) : f_E sh t YX0_freeLot rm cs (f_Q sh t R) 0 [.inr (.inr (.inl (0, 7, 4423))), .inl x1, .inl x2, .inr (.inr (.inr ()))] [] M :=
  f_go (KC := f_kc []) C qX0_freeLotf f_kc_nil 20 0 h
def WX0_freeLot (x1 : Int) (x2 : Int) (M : e_M) (Q : e_M → Prop) : Prop :=
  VX0_freeLot WX10_at WX10_lot WX8_remove WX0_leaveLot Q x1 x2 M
theorem PX0_freeLot {sh : Nat → Nat × Nat} {t : Nat} {rm : Nat × Nat × Nat} {cs : Nat × Nat} {R : f_Rt} {x1 : Int} {x2 : Int} {M : e_M} (C : f_Hy sh t yX0_freeLot rm cs 7 (lX0_freeLot WX10_at WX10_lot WX8_remove WX0_leaveLot) R) (h : WX0_freeLot x1 x2 M (fun M => R none M)) : f_E sh t YX0_freeLot rm cs (f_Q sh t R) 0 [.inr (.inr (.inl (0, 7, 4423))), .inl x1, .inl x2, .inr (.inr (.inr ()))] [] M :=
  BX0_freeLot C h
def wX0_freeLot : f_Wt := f_wm [(4433, 0, 7), (1, 0, 0), (1, 0, 0)] (fun ar M R => WX0_freeLot (f_vi (f_nth ar 1)) (f_vi (f_nth ar 2)) M (fun M => R none M))
theorem TX0_freeLot {sh : Nat → Nat × Nat} {t : Nat} : f_Mt sh t YX0_freeLot 7 (wX0_freeLot) :=
  f_Mt_of (k := 1) (Nat.le_of_ble_eq_true rfl) rfl rfl (fun ar M R rm cs h1 h2 h3 hX h => PX0_freeLot ⟨Nat.le_of_ble_eq_true rfl, h1, h2, h3, ⟨(f_Mt.up (Nat.le_of_ble_eq_true rfl) TX10_at), (f_Mt.up (Nat.le_of_ble_eq_true rfl) TX10_lot), (f_Mt.up (Nat.le_of_ble_eq_true rfl) TX8_remove), (f_Mt.up (Nat.le_of_ble_eq_true rfl) TX0_leaveLot), trivial⟩, hX⟩ h)
def VX0_free (c_X10_lot : Nat → Int → e_M → (Nat → Prop) → Prop) (c_X8_has : Nat → Int → e_M → (Int → Prop) → Prop) (c_X0_freeLot : Int → Int → e_M → (e_M → Prop) → Prop) (Q : Int → e_M → Prop) (M : e_M) : Prop :=
  ((0 ≤ (0 : Int) ∧ (0 : Int) < 8) ∧ (c_X10_lot ((M 4423 0).toNat) (M 4425 ((0 : Int).toNat)) M (fun r1 => ((0 ≤ (1 : Int) ∧ (1 : Int) < 8) ∧ (c_X8_has (r1 + 4) (M 4425 ((1 : Int).toNat)) M (fun r2 => ((¬ r2 = 0 → ((0 ≤ (0 : Int) ∧ (0 : Int) < 8) ∧ ((0 ≤ (1 : Int) ∧ (1 : Int) < 8) ∧ (c_X0_freeLot (M 4425 ((0 : Int).toNat)) (M 4425 ((1 : Int).toNat)) M (fun M3 => (Q 0 M3)))))) ∧ (r2 = 0 → (Q 9 M)))))))))
def yX0_free (i : Nat) : e_Y := x_get YX0_free [YX10_lot, YX8_has, YX0_freeLot] i
def pX0_freef : List x_I := [(0, 4, 1, 0, 0, 0, []), (1, 25, 0, 0, 4, 0, [(0, 10, 15), (0, 0, 0)]), (4, 4, 1, 0, 0, 0, []), (5, 25, 0, 4, 4, 0, [(0, 20, 8), (0, 1, 2)]), (8, 0, 1, 0, 0, 0, []), (9, 27, 0, 0, 0, 0, []), (10, 40, 0, 2, 12, 0, []), (13, 25, 4, 4, 4, 0, [(0, 8, 2), (0, 1, 4)]), (16, 4, 1, 0, 0, 0, []), (17, 25, 0, 4, 4, 0, [(0, 20, 8), (0, 1, 2)]), (20, 0, 1, 0, 0, 1, []), (21, 27, 0, 0, 0, 0, []), (22, 40, 1, 2, 10, 0, []), (25, 17, 31, 1, 17, 0, []), (28, 0, 2, 0, 0, 9, []), (30, 41, 0, 0, 0, 0, []), (31, 4, 1, 0, 0, 0, []), (32, 4, 1, 0, 0, 0, []), (33, 25, 0, 4, 4, 0, [(0, 20, 8), (0, 1, 2)]), (36, 0, 1, 0, 0, 0, []), (37, 27, 0, 0, 0, 0, []), (38, 4, 1, 0, 0, 0, []), (39, 25, 0, 4, 4, 0, [(0, 20, 8), (0, 1, 2)]), (42, 0, 1, 0, 0, 1, []), (43, 27, 0, 0, 0, 0, []), (44, 40, 2, 3, 2, 0, []), (47, 0, 1, 0, 0, 0, []), (48, 41, 0, 0, 0, 0, [])]
set_option maxRecDepth 20000 in
theorem qX0_freef : f_all yX0_free YX0_free pX0_freef :=
  ⟨f_aload_n (n := 0) (e_dx DX0_free_0 0 rfl) rfl,
  f_getA (e_dx DX0_free_0 1 rfl) fX0_36 rfl (by decide) (Nat.le_of_ble_eq_true rfl) rfl (by decide),
  f_aload_n (n := 0) (e_dx DX0_free_0 2 rfl) rfl,
  f_getA (e_dx DX0_free_0 3 rfl) fX0_19 rfl (by decide) (Nat.le_of_ble_eq_true rfl) rfl (by decide),
  f_iconst (e_dx DX0_free_0 4 rfl) ⟨by decide, by decide⟩,
  f_iaload (e_dx DX0_free_0 5 rfl),
  x_callV (e_dx DX0_free_0 6 rfl) mwX10_lot vwX10_lot cX0_161 rfl,
  f_getA (e_dx DX0_free_0 7 rfl) fX0_343 rfl (by decide) (Nat.le_of_ble_eq_true rfl) rfl (by decide),
  f_aload_n (n := 0) (e_dx DX0_free_0 8 rfl) rfl,
  f_getA (e_dx DX0_free_0 9 rfl) fX0_19 rfl (by decide) (Nat.le_of_ble_eq_true rfl) rfl (by decide),
  f_iconst (e_dx DX0_free_0 10 rfl) ⟨by decide, by decide⟩,
  f_iaload (e_dx DX0_free_0 11 rfl),
  x_callV (e_dx DX0_free_0 12 rfl) mwX8_has vwX8_has cX0_183 rfl,
  f_if_ne (e_dx DX0_free_0 13 rfl) rfl,
  f_bipush (e_dx DX0_free_0 14 rfl) ⟨by decide, by decide⟩,
  ⟨(e_dx DX0_free_0 15 rfl), rfl⟩,
  f_aload_n (n := 0) (e_dx DX0_free_0 16 rfl) rfl,
  f_aload_n (n := 0) (e_dx DX0_free_0 17 rfl) rfl,
  f_getA (e_dx DX0_free_0 18 rfl) fX0_19 rfl (by decide) (Nat.le_of_ble_eq_true rfl) rfl (by decide),
  f_iconst (e_dx DX0_free_0 19 rfl) ⟨by decide, by decide⟩,
  f_iaload (e_dx DX0_free_0 20 rfl),
  f_aload_n (n := 0) (e_dx DX0_free_0 21 rfl) rfl,
  f_getA (e_dx DX0_free_0 22 rfl) fX0_19 rfl (by decide) (Nat.le_of_ble_eq_true rfl) rfl (by decide),
  f_iconst (e_dx DX0_free_0 23 rfl) ⟨by decide, by decide⟩,
  f_iaload (e_dx DX0_free_0 24 rfl),
  x_callV (e_dx DX0_free_0 25 rfl) mwX0_freeLot vwX0_freeLot cX0_397 rfl,
  f_iconst (e_dx DX0_free_0 26 rfl) ⟨by decide, by decide⟩,
  ⟨(e_dx DX0_free_0 27 rfl), rfl⟩, trivial⟩
def lX0_free (c_X10_lot : Nat → Int → e_M → (Nat → Prop) → Prop) (c_X8_has : Nat → Int → e_M → (Int → Prop) → Prop) (c_X0_freeLot : Int → Int → e_M → (e_M → Prop) → Prop) : List (Nat × f_Wt) := [(0, f_wm [(3, 10, 15), (1, 0, 0)] (fun ar M R => c_X10_lot (f_va (f_nth ar 0)) (f_vi (f_nth ar 1)) M (fun r => R (some (.inr (.inr (.inl (4, 9, r))))) M))), (1, f_wm [(3, 8, 2), (1, 0, 0)] (fun ar M R => c_X8_has (f_va (f_nth ar 0)) (f_vi (f_nth ar 1)) M (fun r => R (some (.inl r)) M))), (2, f_wm [(4433, 0, 7), (1, 0, 0), (1, 0, 0)] (fun ar M R => c_X0_freeLot (f_vi (f_nth ar 1)) (f_vi (f_nth ar 2)) M (fun M => R none M)))]
set_option maxRecDepth 20000 in
theorem BX0_free {sh : Nat → Nat × Nat} {t : Nat} {rm : Nat × Nat × Nat} {cs : Nat × Nat} {R : f_Rt} {c_X10_lot : Nat → Int → e_M → (Nat → Prop) → Prop} {c_X8_has : Nat → Int → e_M → (Int → Prop) → Prop} {c_X0_freeLot : Int → Int → e_M → (e_M → Prop) → Prop} {M : e_M} (C : f_Hy sh t yX0_free rm cs 8 (lX0_free c_X10_lot c_X8_has c_X0_freeLot) R) (h : VX0_free c_X10_lot c_X8_has c_X0_freeLot (fun r M => R (some (.inl r)) M) M) : f_E sh t YX0_free rm cs (f_Q sh t R) 0 [.inr (.inr (.inl (0, 7, 4423)))] [] M :=
  f_go (KC := f_kc []) C qX0_freef f_kc_nil 30 0 h
def WX0_free (M : e_M) (Q : Int → e_M → Prop) : Prop :=
  VX0_free WX10_lot WX8_has WX0_freeLot Q M
theorem PX0_free {sh : Nat → Nat × Nat} {t : Nat} {rm : Nat × Nat × Nat} {cs : Nat × Nat} {R : f_Rt} {M : e_M} (C : f_Hy sh t yX0_free rm cs 8 (lX0_free WX10_lot WX8_has WX0_freeLot) R) (h : WX0_free M (fun r M => R (some (.inl r)) M)) : f_E sh t YX0_free rm cs (f_Q sh t R) 0 [.inr (.inr (.inl (0, 7, 4423)))] [] M :=
  BX0_free C h
def wX0_free : f_Wt := f_wm [(4433, 0, 7)] (fun ar M R => WX0_free M (fun r M => R (some (.inl r)) M))
theorem TX0_free {sh : Nat → Nat × Nat} {t : Nat} : f_Mt sh t YX0_free 8 (wX0_free) :=
  f_Mt_of (k := 0) (Nat.le_of_ble_eq_true rfl) rfl rfl (fun ar M R rm cs h1 h2 h3 hX h => PX0_free ⟨Nat.le_of_ble_eq_true rfl, h1, h2, h3, ⟨(f_Mt.up (Nat.le_of_ble_eq_true rfl) TX10_lot), (f_Mt.up (Nat.le_of_ble_eq_true rfl) TX8_has), (f_Mt.up (Nat.le_of_ble_eq_true rfl) TX0_freeLot), trivial⟩, hX⟩ h)
def VX4_own (c_X4_give : Nat → Int → Int → Int → e_M → (e_M → Prop) → Prop) (Q : e_M → Prop) (a0 : Nat) (x1 : Int) (M : e_M) : Prop :=
  (∀ M1 : e_M, M1 = e_up M a0 8 0 → (c_X4_give a0 x1 1 1 M1 (fun M2 => (Q M2))))
def yX4_own (i : Nat) : e_Y := x_get YX4_own [YX4_give] i
def pX4_ownf : List x_I := [(0, 4, 1, 0, 0, 0, []), (1, 0, 1, 0, 0, 0, []), (2, 26, 4, 8, 0, 0, []), (5, 4, 1, 0, 0, 0, []), (6, 2, 1, 1, 0, 0, []), (7, 1, 1, 0, 0, 1, []), (8, 1, 1, 0, 0, 1, []), (9, 40, 0, 4, 6, 0, []), (12, 44, 0, 0, 0, 0, [])]
set_option maxRecDepth 20000 in
theorem qX4_ownf : f_all yX4_own YX4_own pX4_ownf :=
  ⟨f_aload_n (n := 0) (e_dx DX4_own_0 0 rfl) rfl,
  f_iconst (e_dx DX4_own_0 1 rfl) ⟨by decide, by decide⟩,
  f_putn (e_dx DX4_own_0 2 rfl) fX4_48 (fun q hq => by cases hq; rfl) rfl (Or.inl rfl) (by decide),
  f_aload_n (n := 0) (e_dx DX4_own_0 3 rfl) rfl,
  f_iload_n (n := 1) (e_dx DX4_own_0 4 rfl) rfl,
  f_lconst (n := 1) (e_dx DX4_own_0 5 rfl) rfl,
  f_lconst (n := 1) (e_dx DX4_own_0 6 rfl) rfl,
  x_callV (e_dx DX4_own_0 7 rfl) mwX4_give vwX4_give cX4_55 rfl,
  ⟨(e_dx DX4_own_0 8 rfl), rfl⟩, trivial⟩
def lX4_own (c_X4_give : Nat → Int → Int → Int → e_M → (e_M → Prop) → Prop) : List (Nat × f_Wt) := [(0, f_wm [(3, 4, 9), (1, 0, 0), (2, 0, 0), (2, 0, 0)] (fun ar M R => c_X4_give (f_va (f_nth ar 0)) (f_vi (f_nth ar 1)) (f_vi (f_nth ar 2)) (f_vi (f_nth ar 3)) M (fun M => R none M)))]
set_option maxRecDepth 20000 in
theorem BX4_own {sh : Nat → Nat × Nat} {t : Nat} {rm : Nat × Nat × Nat} {cs : Nat × Nat} {R : f_Rt} {c_X4_give : Nat → Int → Int → Int → e_M → (e_M → Prop) → Prop} {a0 : Nat} {x1 : Int} {M : e_M} (C : f_Hy sh t yX4_own rm cs 7 (lX4_own c_X4_give) R) (h : VX4_own c_X4_give (fun M => R none M) a0 x1 M) : f_E sh t YX4_own rm cs (f_Q sh t R) 0 [.inr (.inr (.inl (4, 9, a0))), .inl x1] [] M :=
  f_go (KC := f_kc []) C qX4_ownf f_kc_nil 11 0 h
def WX4_own (a0 : Nat) (x1 : Int) (M : e_M) (Q : e_M → Prop) : Prop :=
  VX4_own WX4_give Q a0 x1 M
theorem PX4_own {sh : Nat → Nat × Nat} {t : Nat} {rm : Nat × Nat × Nat} {cs : Nat × Nat} {R : f_Rt} {a0 : Nat} {x1 : Int} {M : e_M} (C : f_Hy sh t yX4_own rm cs 7 (lX4_own WX4_give) R) (h : WX4_own a0 x1 M (fun M => R none M)) : f_E sh t YX4_own rm cs (f_Q sh t R) 0 [.inr (.inr (.inl (4, 9, a0))), .inl x1] [] M :=
  BX4_own C h
def wX4_own : f_Wt := f_wm [(3, 4, 9), (1, 0, 0)] (fun ar M R => WX4_own (f_va (f_nth ar 0)) (f_vi (f_nth ar 1)) M (fun M => R none M))
theorem TX4_own {sh : Nat → Nat × Nat} {t : Nat} : f_Mt sh t YX4_own 7 (wX4_own) :=
  f_Mt_of (k := 0) (Nat.le_of_ble_eq_true rfl) rfl rfl (fun ar M R rm cs h1 h2 h3 hX h => PX4_own ⟨Nat.le_of_ble_eq_true rfl, h1, h2, h3, ⟨(f_Mt.up (Nat.le_of_ble_eq_true rfl) TX4_give), trivial⟩, hX⟩ h)
def VX0_clearLot_2 (c_X10_at : Nat → Int → Int → e_M → (Nat → Prop) → Prop) (c_X9_isThere : Nat → Int → e_M → (Int → Prop) → Prop) (c_X8_has : Nat → Int → e_M → (Int → Prop) → Prop) (c_X0_leaveLot : Nat → Int → e_M → (e_M → Prop) → Prop) (k11 : Int → Int → Int → Int → e_M → Prop) (Q : e_M → Prop) (x1 : Int) (x2 : Int) (x3 : Int) (M : e_M) : Prop :=
  ((6 < x3 → (Q M)) ∧ (x3 ≤ 6 → (k11 x1 x2 x3 0 M)))
def VX0_clearLot_11 (c_X10_at : Nat → Int → Int → e_M → (Nat → Prop) → Prop) (c_X9_isThere : Nat → Int → e_M → (Int → Prop) → Prop) (c_X8_has : Nat → Int → e_M → (Int → Prop) → Prop) (c_X0_leaveLot : Nat → Int → e_M → (e_M → Prop) → Prop) (k2 : Int → Int → Int → e_M → Prop) (k55 : Int → Int → Int → Int → Nat → e_M → Prop) (k56 : Int → Int → Int → Int → Nat → Int → e_M → Prop) (Q : e_M → Prop) (x1 : Int) (x2 : Int) (x3 : Int) (x4 : Int) (M : e_M) : Prop :=
  ((0 ≤ x3 ∧ x3 < 8) ∧ (((M ((M 4423 0).toNat + 24) (x3.toNat)) ≤ x4 → (k2 x1 x2 (e_w32 (x3 + 1)) M)) ∧ (x4 < (M ((M 4423 0).toNat + 24) (x3.toNat)) → (c_X10_at ((M 4423 0).toNat) x3 x4 M (fun r1 => ((¬ x3 = 4 → (k55 x1 x2 x3 x4 r1 M)) ∧ (x3 = 4 → ((x2 ≤ (M r1 1) → (k55 x1 x2 x3 x4 r1 M)) ∧ ((M r1 1) < x2 → (k56 x1 x2 x3 x4 r1 1 M))))))))))
def VX0_clearLot_55 (c_X10_at : Nat → Int → Int → e_M → (Nat → Prop) → Prop) (c_X9_isThere : Nat → Int → e_M → (Int → Prop) → Prop) (c_X8_has : Nat → Int → e_M → (Int → Prop) → Prop) (c_X0_leaveLot : Nat → Int → e_M → (e_M → Prop) → Prop) (k56 : Int → Int → Int → Int → Nat → Int → e_M → Prop) (Q : e_M → Prop) (x1 : Int) (x2 : Int) (x3 : Int) (x4 : Int) (a5 : Nat) (M : e_M) : Prop :=
  (k56 x1 x2 x3 x4 a5 0 M)
def VX0_clearLot_56 (c_X10_at : Nat → Int → Int → e_M → (Nat → Prop) → Prop) (c_X9_isThere : Nat → Int → e_M → (Int → Prop) → Prop) (c_X8_has : Nat → Int → e_M → (Int → Prop) → Prop) (c_X0_leaveLot : Nat → Int → e_M → (e_M → Prop) → Prop) (k97 : Int → Int → Int → Int → e_M → Prop) (Q : e_M → Prop) (x1 : Int) (x2 : Int) (x3 : Int) (x4 : Int) (a5 : Nat) (xs0 : Int) (M : e_M) : Prop :=
  ((¬ xs0 = 0 → (k97 x1 x2 x3 x4 M)) ∧ (xs0 = 0 → (c_X9_isThere a5 (M ((M 4423 0).toNat) 11) M (fun r1 => ((r1 = 0 → (k97 x1 x2 x3 x4 M)) ∧ (¬ r1 = 0 → (c_X8_has ((M a5 9).toNat) x1 M (fun r2 => ((r2 = 0 → (k97 x1 x2 x3 x4 M)) ∧ (¬ r2 = 0 → (c_X0_leaveLot a5 x1 M (fun M3 => (k97 x1 x2 x3 x4 M3)))))))))))))
def VX0_clearLot_97 (c_X10_at : Nat → Int → Int → e_M → (Nat → Prop) → Prop) (c_X9_isThere : Nat → Int → e_M → (Int → Prop) → Prop) (c_X8_has : Nat → Int → e_M → (Int → Prop) → Prop) (c_X0_leaveLot : Nat → Int → e_M → (e_M → Prop) → Prop) (k11 : Int → Int → Int → Int → e_M → Prop) (Q : e_M → Prop) (x1 : Int) (x2 : Int) (x3 : Int) (x4 : Int) (M : e_M) : Prop :=
  (k11 x1 x2 x3 (e_w32 (x4 + 1)) M)
def VX0_clearLot (c_X10_at : Nat → Int → Int → e_M → (Nat → Prop) → Prop) (c_X9_isThere : Nat → Int → e_M → (Int → Prop) → Prop) (c_X8_has : Nat → Int → e_M → (Int → Prop) → Prop) (c_X0_leaveLot : Nat → Int → e_M → (e_M → Prop) → Prop) (k2 : Int → Int → Int → e_M → Prop) (Q : e_M → Prop) (x1 : Int) (x2 : Int) (M : e_M) : Prop :=
  (k2 x1 x2 4 M)
def yX0_clearLot (i : Nat) : e_Y := x_get YX0_clearLot [YX10_at, YX9_isThere, YX8_has, YX0_leaveLot] i
def pX0_clearLotf : List x_I := [(0, 0, 1, 0, 0, 4, []), (1, 5, 1, 3, 0, 0, []), (2, 49, 0, 0, 0, 0, []), (2, 2, 1, 3, 0, 0, []), (3, 0, 2, 0, 0, 6, []), (5, 18, 109, 4, 58, 0, []), (8, 0, 1, 0, 0, 0, []), (9, 5, 2, 4, 0, 0, []), (11, 49, 0, 0, 0, 0, []), (11, 2, 2, 4, 0, 0, []), (13, 4, 1, 0, 0, 0, []), (14, 25, 0, 0, 4, 0, [(0, 10, 15), (0, 0, 0)]), (17, 25, 10, 4, 4, 0, [(0, 20, 8), (0, 1, 24)]), (20, 2, 1, 3, 0, 0, []), (21, 27, 0, 0, 0, 0, []), (22, 18, 103, 3, 56, 0, []), (25, 4, 1, 0, 0, 0, []), (26, 25, 0, 0, 4, 0, [(0, 10, 15), (0, 0, 0)]), (29, 2, 1, 3, 0, 0, []), (30, 2, 2, 4, 0, 0, []), (32, 40, 0, 3, 12, 0, []), (35, 7, 2, 5, 0, 0, []), (37, 2, 1, 3, 0, 0, []), (38, 0, 1, 0, 0, 4, []), (39, 18, 55, 1, 32, 0, []), (42, 4, 2, 5, 0, 0, []), (44, 25, 9, 1, 0, 0, []), (47, 2, 1, 2, 0, 0, []), (48, 18, 55, 3, 32, 0, []), (51, 0, 1, 0, 0, 1, []), (52, 19, 56, 0, 34, 0, []), (55, 49, 0, 0, 0, 0, []), (55, 0, 1, 0, 0, 0, []), (56, 49, 0, 0, 0, 0, []), (56, 5, 2, 6, 0, 0, []), (58, 2, 2, 6, 0, 0, []), (60, 17, 97, 1, 53, 0, []), (63, 4, 2, 5, 0, 0, []), (65, 4, 1, 0, 0, 0, []), (66, 25, 0, 0, 4, 0, [(0, 10, 15), (0, 0, 0)]), (69, 25, 10, 11, 0, 0, []), (72, 40, 1, 2, 11, 0, []), (75, 17, 97, 0, 53, 0, []), (78, 4, 2, 5, 0, 0, []), (80, 25, 9, 9, 4, 0, [(0, 8, 2), (0, 0, 0)]), (83, 2, 1, 1, 0, 0, []), (84, 40, 2, 2, 10, 0, []), (87, 17, 97, 0, 53, 0, []), (90, 4, 1, 0, 0, 0, []), (91, 4, 2, 5, 0, 0, []), (93, 2, 1, 1, 0, 0, []), (94, 40, 3, 3, 2, 0, []), (97, 49, 0, 0, 0, 0, []), (97, 8, 0, 4, 0, 1, []), (100, 19, 11, 0, 9, 0, []), (103, 8, 0, 3, 0, 1, []), (106, 19, 2, 0, 3, 0, []), (109, 44, 0, 0, 0, 0, [])]
set_option maxRecDepth 20000 in
theorem qX0_clearLotf : f_all yX0_clearLot YX0_clearLot pX0_clearLotf :=
  ⟨f_iconst (e_dx DX0_clearLot_0 0 rfl) ⟨by decide, by decide⟩,
  f_istore_n (n := 3) (e_dx DX0_clearLot_0 1 rfl) rfl (by decide),
  trivial,
  f_iload_n (n := 3) (e_dx DX0_clearLot_0 2 rfl) rfl,
  f_bipush (e_dx DX0_clearLot_0 3 rfl) ⟨by decide, by decide⟩,
  f_icmp_gt (e_dx DX0_clearLot_0 4 rfl) rfl,
  f_iconst (e_dx DX0_clearLot_0 5 rfl) ⟨by decide, by decide⟩,
  f_istore (e_dx DX0_clearLot_0 6 rfl) (by decide),
  trivial,
  f_iload (e_dx DX0_clearLot_0 7 rfl),
  f_aload_n (n := 0) (e_dx DX0_clearLot_0 8 rfl) rfl,
  f_getA (e_dx DX0_clearLot_0 9 rfl) fX0_36 rfl (by decide) (Nat.le_of_ble_eq_true rfl) rfl (by decide),
  f_getA (e_dx DX0_clearLot_0 10 rfl) fX0_174 rfl (by decide) (Nat.le_of_ble_eq_true rfl) rfl (by decide),
  f_iload_n (n := 3) (e_dx DX0_clearLot_0 11 rfl) rfl,
  f_iaload (e_dx DX0_clearLot_0 12 rfl),
  f_icmp_ge (e_dx DX0_clearLot_0 13 rfl) rfl,
  f_aload_n (n := 0) (e_dx DX0_clearLot_0 14 rfl) rfl,
  f_getA (e_dx DX0_clearLot_0 15 rfl) fX0_36 rfl (by decide) (Nat.le_of_ble_eq_true rfl) rfl (by decide),
  f_iload_n (n := 3) (e_dx DX0_clearLot_0 16 rfl) rfl,
  f_iload (e_dx DX0_clearLot_0 17 rfl),
  x_callV (e_dx DX0_clearLot_0 18 rfl) mwX10_at vwX10_at cX0_152 rfl,
  f_astore (e_dx DX0_clearLot_0 19 rfl) (by decide),
  f_iload_n (n := 3) (e_dx DX0_clearLot_0 20 rfl) rfl,
  f_iconst (e_dx DX0_clearLot_0 21 rfl) ⟨by decide, by decide⟩,
  f_icmp_ne (e_dx DX0_clearLot_0 22 rfl) rfl,
  f_aload (e_dx DX0_clearLot_0 23 rfl),
  f_getf (e_dx DX0_clearLot_0 24 rfl) fX0_409 rfl (by decide) (by decide) (by decide),
  f_iload_n (n := 2) (e_dx DX0_clearLot_0 25 rfl) rfl,
  f_icmp_ge (e_dx DX0_clearLot_0 26 rfl) rfl,
  f_iconst (e_dx DX0_clearLot_0 27 rfl) ⟨by decide, by decide⟩,
  f_g19 (e_dx DX0_clearLot_0 28 rfl) rfl,
  trivial,
  f_iconst (e_dx DX0_clearLot_0 29 rfl) ⟨by decide, by decide⟩,
  trivial,
  f_istore (e_dx DX0_clearLot_0 30 rfl) (by decide),
  f_iload (e_dx DX0_clearLot_0 31 rfl),
  f_if_ne (e_dx DX0_clearLot_0 32 rfl) rfl,
  f_aload (e_dx DX0_clearLot_0 33 rfl),
  f_aload_n (n := 0) (e_dx DX0_clearLot_0 34 rfl) rfl,
  f_getA (e_dx DX0_clearLot_0 35 rfl) fX0_36 rfl (by decide) (Nat.le_of_ble_eq_true rfl) rfl (by decide),
  f_getf (e_dx DX0_clearLot_0 36 rfl) fX0_49 rfl (by decide) (by decide) (by decide),
  x_callV (e_dx DX0_clearLot_0 37 rfl) mwX9_isThere vwX9_isThere cX0_177 rfl,
  f_if_eq (e_dx DX0_clearLot_0 38 rfl) rfl,
  f_aload (e_dx DX0_clearLot_0 39 rfl),
  f_getA (e_dx DX0_clearLot_1 0 rfl) fX0_179 rfl (by decide) (Nat.le_of_ble_eq_true rfl) rfl (by decide),
  f_iload_n (n := 1) (e_dx DX0_clearLot_1 1 rfl) rfl,
  x_callV (e_dx DX0_clearLot_1 2 rfl) mwX8_has vwX8_has cX0_183 rfl,
  f_if_eq (e_dx DX0_clearLot_1 3 rfl) rfl,
  f_aload_n (n := 0) (e_dx DX0_clearLot_1 4 rfl) rfl,
  f_aload (e_dx DX0_clearLot_1 5 rfl),
  f_iload_n (n := 1) (e_dx DX0_clearLot_1 6 rfl) rfl,
  x_callV (e_dx DX0_clearLot_1 7 rfl) mwX0_leaveLot vwX0_leaveLot cX0_388 rfl,
  trivial,
  f_g8 (e_dx DX0_clearLot_1 8 rfl) ⟨by decide, by decide⟩,
  f_g19 (e_dx DX0_clearLot_1 9 rfl) rfl,
  f_g8 (e_dx DX0_clearLot_1 10 rfl) ⟨by decide, by decide⟩,
  f_g19 (e_dx DX0_clearLot_1 11 rfl) rfl,
  ⟨(e_dx DX0_clearLot_1 12 rfl), rfl⟩, trivial⟩
def lX0_clearLot (c_X10_at : Nat → Int → Int → e_M → (Nat → Prop) → Prop) (c_X9_isThere : Nat → Int → e_M → (Int → Prop) → Prop) (c_X8_has : Nat → Int → e_M → (Int → Prop) → Prop) (c_X0_leaveLot : Nat → Int → e_M → (e_M → Prop) → Prop) : List (Nat × f_Wt) := [(0, f_wm [(3, 10, 15), (1, 0, 0), (1, 0, 0)] (fun ar M R => c_X10_at (f_va (f_nth ar 0)) (f_vi (f_nth ar 1)) (f_vi (f_nth ar 2)) M (fun r => R (some (.inr (.inr (.inl (9, 14, r))))) M))), (1, f_wm [(3, 9, 14), (1, 0, 0)] (fun ar M R => c_X9_isThere (f_va (f_nth ar 0)) (f_vi (f_nth ar 1)) M (fun r => R (some (.inl r)) M))), (2, f_wm [(3, 8, 2), (1, 0, 0)] (fun ar M R => c_X8_has (f_va (f_nth ar 0)) (f_vi (f_nth ar 1)) M (fun r => R (some (.inl r)) M))), (3, f_wm [(4433, 0, 7), (3, 9, 14), (1, 0, 0)] (fun ar M R => c_X0_leaveLot (f_va (f_nth ar 1)) (f_vi (f_nth ar 2)) M (fun M => R none M)))]
set_option maxRecDepth 20000 in
theorem BX0_clearLot_2 {sh : Nat → Nat × Nat} {t : Nat} {rm : Nat × Nat × Nat} {cs : Nat × Nat} {R : f_Rt} {c_X10_at : Nat → Int → Int → e_M → (Nat → Prop) → Prop} {c_X9_isThere : Nat → Int → e_M → (Int → Prop) → Prop} {c_X8_has : Nat → Int → e_M → (Int → Prop) → Prop} {c_X0_leaveLot : Nat → Int → e_M → (e_M → Prop) → Prop} {k11 : Int → Int → Int → Int → e_M → Prop} {x1 : Int} {x2 : Int} {x3 : Int} {M : e_M} (C : f_Hy sh t yX0_clearLot rm cs 7 (lX0_clearLot c_X10_at c_X9_isThere c_X8_has c_X0_leaveLot) R) (h11 : ∀ (x1 : Int) (x2 : Int) (x3 : Int) (x4 : Int) (M : e_M), k11 x1 x2 x3 x4 M → f_E sh t YX0_clearLot rm cs (f_Q sh t R) 11 [.inr (.inr (.inl (0, 7, 4423))), .inl x1, .inl x2, .inl x3, .inl x4, .inr (.inr (.inr ())), .inr (.inr (.inr ()))] [] M) (h : VX0_clearLot_2 c_X10_at c_X9_isThere c_X8_has c_X0_leaveLot k11 (fun M => R none M) x1 x2 x3 M) : f_E sh t YX0_clearLot rm cs (f_Q sh t R) 2 [.inr (.inr (.inl (0, 7, 4423))), .inl x1, .inl x2, .inl x3, .inr (.inr (.inr ())), .inr (.inr (.inr ())), .inr (.inr (.inr ()))] [] M :=
  f_go (KC := f_kc [(11, f_pl [(4433, 0, 7), (1, 0, 0), (1, 0, 0), (1, 0, 0), (1, 0, 0), (0, 0, 0), (0, 0, 0)] [] (fun ls st M => k11 (f_vi (f_nth ls 1)) (f_vi (f_nth ls 2)) (f_vi (f_nth ls 3)) (f_vi (f_nth ls 4)) M))]) C qX0_clearLotf (f_kc_cons (f_pl_ok rfl (fun ls st M h => h11 _ _ _ _ M h)) f_kc_nil) 60 3 h
set_option maxRecDepth 20000 in
theorem BX0_clearLot_11 {sh : Nat → Nat × Nat} {t : Nat} {rm : Nat × Nat × Nat} {cs : Nat × Nat} {R : f_Rt} {c_X10_at : Nat → Int → Int → e_M → (Nat → Prop) → Prop} {c_X9_isThere : Nat → Int → e_M → (Int → Prop) → Prop} {c_X8_has : Nat → Int → e_M → (Int → Prop) → Prop} {c_X0_leaveLot : Nat → Int → e_M → (e_M → Prop) → Prop} {k2 : Int → Int → Int → e_M → Prop} {k55 : Int → Int → Int → Int → Nat → e_M → Prop} {k56 : Int → Int → Int → Int → Nat → Int → e_M → Prop} {x1 : Int} {x2 : Int} {x3 : Int} {x4 : Int} {M : e_M} (C : f_Hy sh t yX0_clearLot rm cs 7 (lX0_clearLot c_X10_at c_X9_isThere c_X8_has c_X0_leaveLot) R) (h2 : ∀ (x1 : Int) (x2 : Int) (x3 : Int) (M : e_M), k2 x1 x2 x3 M → f_E sh t YX0_clearLot rm cs (f_Q sh t R) 2 [.inr (.inr (.inl (0, 7, 4423))), .inl x1, .inl x2, .inl x3, .inr (.inr (.inr ())), .inr (.inr (.inr ())), .inr (.inr (.inr ()))] [] M) (h55 : ∀ (x1 : Int) (x2 : Int) (x3 : Int) (x4 : Int) (a5 : Nat) (M : e_M), k55 x1 x2 x3 x4 a5 M → f_E sh t YX0_clearLot rm cs (f_Q sh t R) 55 [.inr (.inr (.inl (0, 7, 4423))), .inl x1, .inl x2, .inl x3, .inl x4, .inr (.inr (.inl (9, 14, a5))), .inr (.inr (.inr ()))] [] M) (h56 : ∀ (x1 : Int) (x2 : Int) (x3 : Int) (x4 : Int) (a5 : Nat) (xs0 : Int) (M : e_M), k56 x1 x2 x3 x4 a5 xs0 M → f_E sh t YX0_clearLot rm cs (f_Q sh t R) 56 [.inr (.inr (.inl (0, 7, 4423))), .inl x1, .inl x2, .inl x3, .inl x4, .inr (.inr (.inl (9, 14, a5))), .inr (.inr (.inr ()))] [.inl xs0] M) (h : VX0_clearLot_11 c_X10_at c_X9_isThere c_X8_has c_X0_leaveLot k2 k55 k56 (fun M => R none M) x1 x2 x3 x4 M) : f_E sh t YX0_clearLot rm cs (f_Q sh t R) 11 [.inr (.inr (.inl (0, 7, 4423))), .inl x1, .inl x2, .inl x3, .inl x4, .inr (.inr (.inr ())), .inr (.inr (.inr ()))] [] M :=
  f_go (KC := f_kc [(2, f_pl [(4433, 0, 7), (1, 0, 0), (1, 0, 0), (1, 0, 0), (0, 0, 0), (0, 0, 0), (0, 0, 0)] [] (fun ls st M => k2 (f_vi (f_nth ls 1)) (f_vi (f_nth ls 2)) (f_vi (f_nth ls 3)) M)), (55, f_pl [(4433, 0, 7), (1, 0, 0), (1, 0, 0), (1, 0, 0), (1, 0, 0), (3, 9, 14), (0, 0, 0)] [] (fun ls st M => k55 (f_vi (f_nth ls 1)) (f_vi (f_nth ls 2)) (f_vi (f_nth ls 3)) (f_vi (f_nth ls 4)) (f_va (f_nth ls 5)) M)), (56, f_pl [(4433, 0, 7), (1, 0, 0), (1, 0, 0), (1, 0, 0), (1, 0, 0), (3, 9, 14), (0, 0, 0)] [(1, 0, 0)] (fun ls st M => k56 (f_vi (f_nth ls 1)) (f_vi (f_nth ls 2)) (f_vi (f_nth ls 3)) (f_vi (f_nth ls 4)) (f_va (f_nth ls 5)) (f_vi (f_nth st 0)) M))]) C qX0_clearLotf (f_kc_cons (f_pl_ok rfl (fun ls st M h => h2 _ _ _ M h)) (f_kc_cons (f_pl_ok rfl (fun ls st M h => h55 _ _ _ _ _ M h)) (f_kc_cons (f_pl_ok rfl (fun ls st M h => h56 _ _ _ _ _ _ M h)) f_kc_nil))) 60 9 h
set_option maxRecDepth 20000 in
theorem BX0_clearLot_55 {sh : Nat → Nat × Nat} {t : Nat} {rm : Nat × Nat × Nat} {cs : Nat × Nat} {R : f_Rt} {c_X10_at : Nat → Int → Int → e_M → (Nat → Prop) → Prop} {c_X9_isThere : Nat → Int → e_M → (Int → Prop) → Prop} {c_X8_has : Nat → Int → e_M → (Int → Prop) → Prop} {c_X0_leaveLot : Nat → Int → e_M → (e_M → Prop) → Prop} {k56 : Int → Int → Int → Int → Nat → Int → e_M → Prop} {x1 : Int} {x2 : Int} {x3 : Int} {x4 : Int} {a5 : Nat} {M : e_M} (C : f_Hy sh t yX0_clearLot rm cs 7 (lX0_clearLot c_X10_at c_X9_isThere c_X8_has c_X0_leaveLot) R) (h56 : ∀ (x1 : Int) (x2 : Int) (x3 : Int) (x4 : Int) (a5 : Nat) (xs0 : Int) (M : e_M), k56 x1 x2 x3 x4 a5 xs0 M → f_E sh t YX0_clearLot rm cs (f_Q sh t R) 56 [.inr (.inr (.inl (0, 7, 4423))), .inl x1, .inl x2, .inl x3, .inl x4, .inr (.inr (.inl (9, 14, a5))), .inr (.inr (.inr ()))] [.inl xs0] M) (h : VX0_clearLot_55 c_X10_at c_X9_isThere c_X8_has c_X0_leaveLot k56 (fun M => R none M) x1 x2 x3 x4 a5 M) : f_E sh t YX0_clearLot rm cs (f_Q sh t R) 55 [.inr (.inr (.inl (0, 7, 4423))), .inl x1, .inl x2, .inl x3, .inl x4, .inr (.inr (.inl (9, 14, a5))), .inr (.inr (.inr ()))] [] M :=
  f_go (KC := f_kc [(56, f_pl [(4433, 0, 7), (1, 0, 0), (1, 0, 0), (1, 0, 0), (1, 0, 0), (3, 9, 14), (0, 0, 0)] [(1, 0, 0)] (fun ls st M => k56 (f_vi (f_nth ls 1)) (f_vi (f_nth ls 2)) (f_vi (f_nth ls 3)) (f_vi (f_nth ls 4)) (f_va (f_nth ls 5)) (f_vi (f_nth st 0)) M))]) C qX0_clearLotf (f_kc_cons (f_pl_ok rfl (fun ls st M h => h56 _ _ _ _ _ _ M h)) f_kc_nil) 60 32 h
set_option maxRecDepth 20000 in
theorem BX0_clearLot_56 {sh : Nat → Nat × Nat} {t : Nat} {rm : Nat × Nat × Nat} {cs : Nat × Nat} {R : f_Rt} {c_X10_at : Nat → Int → Int → e_M → (Nat → Prop) → Prop} {c_X9_isThere : Nat → Int → e_M → (Int → Prop) → Prop} {c_X8_has : Nat → Int → e_M → (Int → Prop) → Prop} {c_X0_leaveLot : Nat → Int → e_M → (e_M → Prop) → Prop} {k97 : Int → Int → Int → Int → e_M → Prop} {x1 : Int} {x2 : Int} {x3 : Int} {x4 : Int} {a5 : Nat} {xs0 : Int} {M : e_M} (C : f_Hy sh t yX0_clearLot rm cs 7 (lX0_clearLot c_X10_at c_X9_isThere c_X8_has c_X0_leaveLot) R) (h97 : ∀ (x1 : Int) (x2 : Int) (x3 : Int) (x4 : Int) (M : e_M), k97 x1 x2 x3 x4 M → f_E sh t YX0_clearLot rm cs (f_Q sh t R) 97 [.inr (.inr (.inl (0, 7, 4423))), .inl x1, .inl x2, .inl x3, .inl x4, .inr (.inr (.inr ())), .inr (.inr (.inr ()))] [] M) (h : VX0_clearLot_56 c_X10_at c_X9_isThere c_X8_has c_X0_leaveLot k97 (fun M => R none M) x1 x2 x3 x4 a5 xs0 M) : f_E sh t YX0_clearLot rm cs (f_Q sh t R) 56 [.inr (.inr (.inl (0, 7, 4423))), .inl x1, .inl x2, .inl x3, .inl x4, .inr (.inr (.inl (9, 14, a5))), .inr (.inr (.inr ()))] [.inl xs0] M :=
  f_go (KC := f_kc [(97, f_pl [(4433, 0, 7), (1, 0, 0), (1, 0, 0), (1, 0, 0), (1, 0, 0), (0, 0, 0), (0, 0, 0)] [] (fun ls st M => k97 (f_vi (f_nth ls 1)) (f_vi (f_nth ls 2)) (f_vi (f_nth ls 3)) (f_vi (f_nth ls 4)) M))]) C qX0_clearLotf (f_kc_cons (f_pl_ok rfl (fun ls st M h => h97 _ _ _ _ M h)) f_kc_nil) 60 34 h
set_option maxRecDepth 20000 in
theorem BX0_clearLot_97 {sh : Nat → Nat × Nat} {t : Nat} {rm : Nat × Nat × Nat} {cs : Nat × Nat} {R : f_Rt} {c_X10_at : Nat → Int → Int → e_M → (Nat → Prop) → Prop} {c_X9_isThere : Nat → Int → e_M → (Int → Prop) → Prop} {c_X8_has : Nat → Int → e_M → (Int → Prop) → Prop} {c_X0_leaveLot : Nat → Int → e_M → (e_M → Prop) → Prop} {k11 : Int → Int → Int → Int → e_M → Prop} {x1 : Int} {x2 : Int} {x3 : Int} {x4 : Int} {M : e_M} (C : f_Hy sh t yX0_clearLot rm cs 7 (lX0_clearLot c_X10_at c_X9_isThere c_X8_has c_X0_leaveLot) R) (h11 : ∀ (x1 : Int) (x2 : Int) (x3 : Int) (x4 : Int) (M : e_M), k11 x1 x2 x3 x4 M → f_E sh t YX0_clearLot rm cs (f_Q sh t R) 11 [.inr (.inr (.inl (0, 7, 4423))), .inl x1, .inl x2, .inl x3, .inl x4, .inr (.inr (.inr ())), .inr (.inr (.inr ()))] [] M) (h : VX0_clearLot_97 c_X10_at c_X9_isThere c_X8_has c_X0_leaveLot k11 (fun M => R none M) x1 x2 x3 x4 M) : f_E sh t YX0_clearLot rm cs (f_Q sh t R) 97 [.inr (.inr (.inl (0, 7, 4423))), .inl x1, .inl x2, .inl x3, .inl x4, .inr (.inr (.inr ())), .inr (.inr (.inr ()))] [] M :=
  f_go (KC := f_kc [(11, f_pl [(4433, 0, 7), (1, 0, 0), (1, 0, 0), (1, 0, 0), (1, 0, 0), (0, 0, 0), (0, 0, 0)] [] (fun ls st M => k11 (f_vi (f_nth ls 1)) (f_vi (f_nth ls 2)) (f_vi (f_nth ls 3)) (f_vi (f_nth ls 4)) M))]) C qX0_clearLotf (f_kc_cons (f_pl_ok rfl (fun ls st M h => h11 _ _ _ _ M h)) f_kc_nil) 60 53 h
set_option maxRecDepth 20000 in
theorem BX0_clearLot {sh : Nat → Nat × Nat} {t : Nat} {rm : Nat × Nat × Nat} {cs : Nat × Nat} {R : f_Rt} {c_X10_at : Nat → Int → Int → e_M → (Nat → Prop) → Prop} {c_X9_isThere : Nat → Int → e_M → (Int → Prop) → Prop} {c_X8_has : Nat → Int → e_M → (Int → Prop) → Prop} {c_X0_leaveLot : Nat → Int → e_M → (e_M → Prop) → Prop} {k2 : Int → Int → Int → e_M → Prop} {x1 : Int} {x2 : Int} {M : e_M} (C : f_Hy sh t yX0_clearLot rm cs 7 (lX0_clearLot c_X10_at c_X9_isThere c_X8_has c_X0_leaveLot) R) (h2 : ∀ (x1 : Int) (x2 : Int) (x3 : Int) (M : e_M), k2 x1 x2 x3 M → f_E sh t YX0_clearLot rm cs (f_Q sh t R) 2 [.inr (.inr (.inl (0, 7, 4423))), .inl x1, .inl x2, .inl x3, .inr (.inr (.inr ())), .inr (.inr (.inr ())), .inr (.inr (.inr ()))] [] M) (h : VX0_clearLot c_X10_at c_X9_isThere c_X8_has c_X0_leaveLot k2 (fun M => R none M) x1 x2 M) : f_E sh t YX0_clearLot rm cs (f_Q sh t R) 0 [.inr (.inr (.inl (0, 7, 4423))), .inl x1, .inl x2, .inr (.inr (.inr ())), .inr (.inr (.inr ())), .inr (.inr (.inr ())), .inr (.inr (.inr ()))] [] M :=
  f_go (KC := f_kc [(2, f_pl [(4433, 0, 7), (1, 0, 0), (1, 0, 0), (1, 0, 0), (0, 0, 0), (0, 0, 0), (0, 0, 0)] [] (fun ls st M => k2 (f_vi (f_nth ls 1)) (f_vi (f_nth ls 2)) (f_vi (f_nth ls 3)) M))]) C qX0_clearLotf (f_kc_cons (f_pl_ok rfl (fun ls st M h => h2 _ _ _ M h)) f_kc_nil) 60 0 h
def WX0_clearLot_97 (H2 : Int → Int → Int → e_M → Prop) (H11 : Int → Int → Int → Int → e_M → Prop) (Q : e_M → Prop) (x1 : Int) (x2 : Int) (x3 : Int) (x4 : Int) (M : e_M) : Prop :=
  VX0_clearLot_97 WX10_at WX9_isThere WX8_has WX0_leaveLot H11 Q x1 x2 x3 x4 M
def WX0_clearLot_56 (H2 : Int → Int → Int → e_M → Prop) (H11 : Int → Int → Int → Int → e_M → Prop) (Q : e_M → Prop) (x1 : Int) (x2 : Int) (x3 : Int) (x4 : Int) (a5 : Nat) (xs0 : Int) (M : e_M) : Prop :=
  VX0_clearLot_56 WX10_at WX9_isThere WX8_has WX0_leaveLot (WX0_clearLot_97 H2 H11 Q) Q x1 x2 x3 x4 a5 xs0 M
def WX0_clearLot_55 (H2 : Int → Int → Int → e_M → Prop) (H11 : Int → Int → Int → Int → e_M → Prop) (Q : e_M → Prop) (x1 : Int) (x2 : Int) (x3 : Int) (x4 : Int) (a5 : Nat) (M : e_M) : Prop :=
  VX0_clearLot_55 WX10_at WX9_isThere WX8_has WX0_leaveLot (WX0_clearLot_56 H2 H11 Q) Q x1 x2 x3 x4 a5 M
def WX0_clearLot_11 (H2 : Int → Int → Int → e_M → Prop) (Q : e_M → Prop) : Nat → Int → Int → Int → Int → e_M → Prop
  | 0, _, _, _, _, _ => False
  | n + 1, x1, x2, x3, x4, M =>
    VX0_clearLot_11 WX10_at WX9_isThere WX8_has WX0_leaveLot H2 (WX0_clearLot_55 H2 (WX0_clearLot_11 H2 Q n) Q) (WX0_clearLot_56 H2 (WX0_clearLot_11 H2 Q n) Q) Q x1 x2 x3 x4 M
def WX0_clearLot_2 (Q : e_M → Prop) : Nat → Int → Int → Int → e_M → Prop
  | 0, _, _, _, _ => False
  | n + 1, x1, x2, x3, M =>
    VX0_clearLot_2 WX10_at WX9_isThere WX8_has WX0_leaveLot (fun x1 x2 x3 x4 M => ∃ j, WX0_clearLot_11 (WX0_clearLot_2 Q n) Q j x1 x2 x3 x4 M) Q x1 x2 x3 M
def WX0_clearLot (x1 : Int) (x2 : Int) (M : e_M) (Q : e_M → Prop) : Prop :=
  VX0_clearLot WX10_at WX9_isThere WX8_has WX0_leaveLot (fun x1 x2 x3 M => ∃ j, WX0_clearLot_2 Q j x1 x2 x3 M) Q x1 x2 M
theorem PX0_clearLot_97 {sh : Nat → Nat × Nat} {t : Nat} {rm : Nat × Nat × Nat} {cs : Nat × Nat} {R : f_Rt} {H2 : Int → Int → Int → e_M → Prop} {H11 : Int → Int → Int → Int → e_M → Prop} {x1 : Int} {x2 : Int} {x3 : Int} {x4 : Int} {M : e_M} (C : f_Hy sh t yX0_clearLot rm cs 7 (lX0_clearLot WX10_at WX9_isThere WX8_has WX0_leaveLot) R) (g2 : ∀ (x1 : Int) (x2 : Int) (x3 : Int) (M : e_M), H2 x1 x2 x3 M → f_E sh t YX0_clearLot rm cs (f_Q sh t R) 2 [.inr (.inr (.inl (0, 7, 4423))), .inl x1, .inl x2, .inl x3, .inr (.inr (.inr ())), .inr (.inr (.inr ())), .inr (.inr (.inr ()))] [] M) (g11 : ∀ (x1 : Int) (x2 : Int) (x3 : Int) (x4 : Int) (M : e_M), H11 x1 x2 x3 x4 M → f_E sh t YX0_clearLot rm cs (f_Q sh t R) 11 [.inr (.inr (.inl (0, 7, 4423))), .inl x1, .inl x2, .inl x3, .inl x4, .inr (.inr (.inr ())), .inr (.inr (.inr ()))] [] M) (h : WX0_clearLot_97 H2 H11 (fun M => R none M) x1 x2 x3 x4 M) : f_E sh t YX0_clearLot rm cs (f_Q sh t R) 97 [.inr (.inr (.inl (0, 7, 4423))), .inl x1, .inl x2, .inl x3, .inl x4, .inr (.inr (.inr ())), .inr (.inr (.inr ()))] [] M :=
  BX0_clearLot_97 C g11 h
theorem PX0_clearLot_56 {sh : Nat → Nat × Nat} {t : Nat} {rm : Nat × Nat × Nat} {cs : Nat × Nat} {R : f_Rt} {H2 : Int → Int → Int → e_M → Prop} {H11 : Int → Int → Int → Int → e_M → Prop} {x1 : Int} {x2 : Int} {x3 : Int} {x4 : Int} {a5 : Nat} {xs0 : Int} {M : e_M} (C : f_Hy sh t yX0_clearLot rm cs 7 (lX0_clearLot WX10_at WX9_isThere WX8_has WX0_leaveLot) R) (g2 : ∀ (x1 : Int) (x2 : Int) (x3 : Int) (M : e_M), H2 x1 x2 x3 M → f_E sh t YX0_clearLot rm cs (f_Q sh t R) 2 [.inr (.inr (.inl (0, 7, 4423))), .inl x1, .inl x2, .inl x3, .inr (.inr (.inr ())), .inr (.inr (.inr ())), .inr (.inr (.inr ()))] [] M) (g11 : ∀ (x1 : Int) (x2 : Int) (x3 : Int) (x4 : Int) (M : e_M), H11 x1 x2 x3 x4 M → f_E sh t YX0_clearLot rm cs (f_Q sh t R) 11 [.inr (.inr (.inl (0, 7, 4423))), .inl x1, .inl x2, .inl x3, .inl x4, .inr (.inr (.inr ())), .inr (.inr (.inr ()))] [] M) (h : WX0_clearLot_56 H2 H11 (fun M => R none M) x1 x2 x3 x4 a5 xs0 M) : f_E sh t YX0_clearLot rm cs (f_Q sh t R) 56 [.inr (.inr (.inl (0, 7, 4423))), .inl x1, .inl x2, .inl x3, .inl x4, .inr (.inr (.inl (9, 14, a5))), .inr (.inr (.inr ()))] [.inl xs0] M :=
  BX0_clearLot_56 C (fun x1 x2 x3 x4 M h => PX0_clearLot_97 C g2 g11 h) h
theorem PX0_clearLot_55 {sh : Nat → Nat × Nat} {t : Nat} {rm : Nat × Nat × Nat} {cs : Nat × Nat} {R : f_Rt} {H2 : Int → Int → Int → e_M → Prop} {H11 : Int → Int → Int → Int → e_M → Prop} {x1 : Int} {x2 : Int} {x3 : Int} {x4 : Int} {a5 : Nat} {M : e_M} (C : f_Hy sh t yX0_clearLot rm cs 7 (lX0_clearLot WX10_at WX9_isThere WX8_has WX0_leaveLot) R) (g2 : ∀ (x1 : Int) (x2 : Int) (x3 : Int) (M : e_M), H2 x1 x2 x3 M → f_E sh t YX0_clearLot rm cs (f_Q sh t R) 2 [.inr (.inr (.inl (0, 7, 4423))), .inl x1, .inl x2, .inl x3, .inr (.inr (.inr ())), .inr (.inr (.inr ())), .inr (.inr (.inr ()))] [] M) (g11 : ∀ (x1 : Int) (x2 : Int) (x3 : Int) (x4 : Int) (M : e_M), H11 x1 x2 x3 x4 M → f_E sh t YX0_clearLot rm cs (f_Q sh t R) 11 [.inr (.inr (.inl (0, 7, 4423))), .inl x1, .inl x2, .inl x3, .inl x4, .inr (.inr (.inr ())), .inr (.inr (.inr ()))] [] M) (h : WX0_clearLot_55 H2 H11 (fun M => R none M) x1 x2 x3 x4 a5 M) : f_E sh t YX0_clearLot rm cs (f_Q sh t R) 55 [.inr (.inr (.inl (0, 7, 4423))), .inl x1, .inl x2, .inl x3, .inl x4, .inr (.inr (.inl (9, 14, a5))), .inr (.inr (.inr ()))] [] M :=
  BX0_clearLot_55 C (fun x1 x2 x3 x4 a5 xs0 M h => PX0_clearLot_56 C g2 g11 h) h
theorem PX0_clearLot_11 {sh : Nat → Nat × Nat} {t : Nat} {rm : Nat × Nat × Nat} {cs : Nat × Nat} {R : f_Rt} {H2 : Int → Int → Int → e_M → Prop} (C : f_Hy sh t yX0_clearLot rm cs 7 (lX0_clearLot WX10_at WX9_isThere WX8_has WX0_leaveLot) R) (g2 : ∀ (x1 : Int) (x2 : Int) (x3 : Int) (M : e_M), H2 x1 x2 x3 M → f_E sh t YX0_clearLot rm cs (f_Q sh t R) 2 [.inr (.inr (.inl (0, 7, 4423))), .inl x1, .inl x2, .inl x3, .inr (.inr (.inr ())), .inr (.inr (.inr ())), .inr (.inr (.inr ()))] [] M) : ∀ (n : Nat) (x1 : Int) (x2 : Int) (x3 : Int) (x4 : Int) (M : e_M), WX0_clearLot_11 H2 (fun M => R none M) n x1 x2 x3 x4 M → f_E sh t YX0_clearLot rm cs (f_Q sh t R) 11 [.inr (.inr (.inl (0, 7, 4423))), .inl x1, .inl x2, .inl x3, .inl x4, .inr (.inr (.inr ())), .inr (.inr (.inr ()))] [] M := by
  intro n
  induction n with
  | zero => intro x1 x2 x3 x4 M h; exact h.elim
  | succ n ih => intro x1 x2 x3 x4 M h; exact BX0_clearLot_11 C g2 (fun x1 x2 x3 x4 a5 M h => PX0_clearLot_55 C g2 ih h) (fun x1 x2 x3 x4 a5 xs0 M h => PX0_clearLot_56 C g2 ih h) h
theorem PX0_clearLot_2 {sh : Nat → Nat × Nat} {t : Nat} {rm : Nat × Nat × Nat} {cs : Nat × Nat} {R : f_Rt} (C : f_Hy sh t yX0_clearLot rm cs 7 (lX0_clearLot WX10_at WX9_isThere WX8_has WX0_leaveLot) R) : ∀ (n : Nat) (x1 : Int) (x2 : Int) (x3 : Int) (M : e_M), WX0_clearLot_2 (fun M => R none M) n x1 x2 x3 M → f_E sh t YX0_clearLot rm cs (f_Q sh t R) 2 [.inr (.inr (.inl (0, 7, 4423))), .inl x1, .inl x2, .inl x3, .inr (.inr (.inr ())), .inr (.inr (.inr ())), .inr (.inr (.inr ()))] [] M := by
  intro n
  induction n with
  | zero => intro x1 x2 x3 M h; exact h.elim
  | succ n ih => intro x1 x2 x3 M h; exact BX0_clearLot_2 C (fun x1 x2 x3 x4 M ⟨j, h⟩ => PX0_clearLot_11 C ih j _ _ _ _ _ h) h
theorem PX0_clearLot {sh : Nat → Nat × Nat} {t : Nat} {rm : Nat × Nat × Nat} {cs : Nat × Nat} {R : f_Rt} {x1 : Int} {x2 : Int} {M : e_M} (C : f_Hy sh t yX0_clearLot rm cs 7 (lX0_clearLot WX10_at WX9_isThere WX8_has WX0_leaveLot) R) (h : WX0_clearLot x1 x2 M (fun M => R none M)) : f_E sh t YX0_clearLot rm cs (f_Q sh t R) 0 [.inr (.inr (.inl (0, 7, 4423))), .inl x1, .inl x2, .inr (.inr (.inr ())), .inr (.inr (.inr ())), .inr (.inr (.inr ())), .inr (.inr (.inr ()))] [] M :=
  BX0_clearLot C (fun x1 x2 x3 M ⟨j, h⟩ => PX0_clearLot_2 C j _ _ _ _ h) h
def wX0_clearLot : f_Wt := f_wm [(4433, 0, 7), (1, 0, 0), (1, 0, 0)] (fun ar M R => WX0_clearLot (f_vi (f_nth ar 1)) (f_vi (f_nth ar 2)) M (fun M => R none M))
theorem TX0_clearLot {sh : Nat → Nat × Nat} {t : Nat} : f_Mt sh t YX0_clearLot 7 (wX0_clearLot) :=
  f_Mt_of (k := 4) (Nat.le_of_ble_eq_true rfl) rfl rfl (fun ar M R rm cs h1 h2 h3 hX h => PX0_clearLot ⟨Nat.le_of_ble_eq_true rfl, h1, h2, h3, ⟨(f_Mt.up (Nat.le_of_ble_eq_true rfl) TX10_at), (f_Mt.up (Nat.le_of_ble_eq_true rfl) TX9_isThere), (f_Mt.up (Nat.le_of_ble_eq_true rfl) TX8_has), (f_Mt.up (Nat.le_of_ble_eq_true rfl) TX0_leaveLot), trivial⟩, hX⟩ h)
